import java.util.ArrayDeque;
import java.util.ArrayList;
import java.util.Arrays;
import java.util.Deque;
import java.util.List;
import java.util.TreeSet;

/** The document once more, by other means and with the whole Java library, for random runs of calls to be held against. */
final class Plain {
    static final int BAD = Due.BAD, NO = Due.NO, FULL = Due.FULL, NONE = Due.NONE;
    static final int NOTHING = Due.NOTHING, KIND = Due.KIND, INDEX = Due.INDEX, SIZE = Due.SIZE;
    static final int[] ABOVE = {-1, 0, 0, 1, 2, 0};

    interface Formula {
        int of(int[] letters);
    }

    static final class Candle {
        int kind, x, y, size, phase, gas = 999, flashes;

        Candle twin() {
            Candle c = new Candle();
            c.kind = kind; c.x = x; c.y = y; c.size = size; c.phase = phase; c.gas = gas; c.flashes = flashes;
            return c;
        }

        boolean is(int wanted) {
            for (int k = kind; k >= 0; k = ABOVE[k]) {
                if (k == wanted) {
                    return true;
                }
            }
            return false;
        }

        int worth(int k) {
            return switch (k) {
                case 0 -> size;
                case 1 -> worth(0) + 4;
                case 2 -> 9 - size;
                case 3 -> worth(1) * 2;
                case 4 -> worth(2) - 2;
                default -> size * size;
            };
        }
    }

    static final class World {
        List<Candle> candles = new ArrayList<>();
        boolean[][] glass = new boolean[8][8];
        int near = 4, far = 9, tick = 0, z = 1;
        List<Told> texts = new ArrayList<>();

        World twin() {
            World w = new World();
            candles.forEach(c -> w.candles.add(c.twin()));
            for (int i = 0; i < 8; i++) {
                w.glass[i] = glass[i].clone();
            }
            w.near = near; w.far = far; w.tick = tick; w.z = z;
            w.texts = new ArrayList<>(texts);
            return w;
        }

        int counting(int key) {
            for (int i = texts.size() - 1; i >= 0; i--) {
                if (texts.get(i).key == key) {
                    return i;
                }
            }
            return -1;
        }

        int law(int key, int least, int most, int plain, String names, int... values) {
            int i = counting(key);
            if (i < 0) {
                return plain;
            }
            int[] letters = new int[128];
            for (int k = 0; k < values.length; k++) {
                letters[names.charAt(k)] = values[k];
            }
            return Math.max(least, Math.min(most, texts.get(i).formula.of(letters)));
        }

        int draw() {
            z = z * 1103515245 + 12345;
            return z >>> 8;
        }

        int pace(int i, int k) {
            int size = candles.get(i).size;
            return switch (k) {
                case 0 -> law(0, 0, 40, 12 - size, "sn", size, i);
                case 1 -> pace(i, 0) + 1;
                case 2 -> pace(i, 0) / 2;
                case 3 -> 2 * pace(i, 1);
                case 4 -> 0;
                default -> pace(i, 0) + 2;
            };
        }

        int push(int one, int other) {
            Candle a = candles.get(one), b = candles.get(other);
            if (a.gas <= 0 || b.gas <= 0 || glass[one][other]) {
                return 0;
            }
            int d = Math.abs(a.x - b.x) + Math.abs(a.y - b.y);
            int p = round(b.phase - a.phase);
            int plain = d <= near ? p / 4 : d <= far ? -(p / 4) : 0;
            return law(1, -20, 20, plain, "dps", d, p, b.size);
        }

        int pushes(int one) {
            int sum = 0;
            for (int i = 0; i < candles.size(); i++) {
                sum += i == one ? 0 : push(one, i);
            }
            return sum;
        }

        int turned(int pushes, int wind, int k) {
            return switch (k) {
                case 0 -> pushes;
                case 1 -> 2 * turned(pushes, wind, 0);
                case 2 -> -turned(pushes, wind, 0);
                case 3 -> turned(pushes, wind, 1) + 3;
                case 4 -> Math.abs(turned(pushes, wind, 2)) <= 4 ? 0 : turned(pushes, wind, 2);
                default -> turned(pushes, wind, 0) + wind;
            };
        }

        int tick() {
            World was = twin();
            int flashed = 0;
            for (int i = 0; i < candles.size(); i++) {
                Candle c = candles.get(i);
                if (was.candles.get(i).gas == 0) {
                    continue;
                }
                int wind = 0;
                if (c.kind == 5) {
                    wind = counting(2) < 0 ? draw() % 11 - 5 : law(2, -30, 30, 0, "tn", was.tick, i);
                }
                int next = was.candles.get(i).phase + was.pace(i, c.kind) + turned(was.pushes(i), wind, c.kind);
                if (next >= 120) {
                    flashed++;
                    c.flashes++;
                }
                c.phase = Math.floorMod(next, 120);
                c.gas = Math.max(0, c.gas - c.size);
            }
            tick++;
            return flashed;
        }

        World after(int ticks) {
            World w = twin();
            for (int i = 0; i < ticks; i++) {
                w.tick();
            }
            return w;
        }

        TreeSet<Integer> phases() {
            TreeSet<Integer> all = new TreeSet<>();
            for (Candle c : candles) {
                if (c.gas > 0) {
                    all.add(c.phase);
                }
            }
            return all;
        }

        /** By its first words: the least arc in which all are. */
        int spread() {
            int least = NONE;
            for (int from : phases()) {
                int arc = 0;
                for (int to : phases()) {
                    arc = Math.max(arc, Math.floorMod(to - from, 120));
                }
                least = least == NONE ? arc : Math.min(least, arc);
            }
            return least;
        }

        int groups(int w) {
            TreeSet<Integer> all = phases();
            if (all.isEmpty()) {
                return 0;
            }
            int many = 0;
            for (int p : all) {
                Integer higher = all.higher(p);
                int step = higher == null ? all.first() + 120 - p : higher - p;
                many += step > w ? 1 : 0;
            }
            return Math.max(1, many);
        }

        boolean agrees(int w) {
            return spread() != NONE && spread() <= w;
        }
    }

    static int round(int p) {
        return p > 59 ? p - 120 : p < -60 ? p + 120 : p;
    }

    // ---- texts, by a machine with a stack instead of by descent

    static final class Told {
        int key = -1, leaves = 0;
        Formula formula;
    }

    /** What stands open: a ( with how many ! are open at its place, and if a test stood in its present part. */
    static final class Open {
        final int nots;
        boolean tested = false;

        Open(int nots) {
            this.nots = nots;
        }
    }

    static int sortOf(int b) {
        return b >= 'a' && b <= 'z' ? 1 : b >= '0' && b <= '9' ? 2 : 0;
    }

    /** The words and signs, each with its first byte's place; a word that needs a blank ahead has a '?' ahead of it. */
    static List<String> pieces(byte[] tape, List<Integer> places) {
        List<String> all = new ArrayList<>();
        int i = 0;
        while (i < tape.length) {
            int sort = sortOf(tape[i]);
            int j = i + 1;
            while (sort != 0 && j < tape.length && sortOf(tape[j]) == sort) {
                j++;
            }
            if (tape[i] != 32) {
                StringBuilder s = new StringBuilder();
                if (sort != 0 && i > 0 && sortOf(tape[i - 1]) != 0) {
                    s.append('?');
                }
                for (int k = i; k < j; k++) {
                    s.append((char) (tape[k] & 255));
                }
                all.add(s.toString());
                places.add(i);
            }
            i = j;
        }
        return all;
    }

    static int fault(byte[] tape, Told told) {
        List<Integer> places = new ArrayList<>();
        List<String> pieces = pieces(tape, places);
        if (pieces.isEmpty()) {
            return tape.length;
        }
        told.key = Arrays.asList("pace", "join", "wind").indexOf(pieces.get(0));
        if (told.key < 0) {
            return places.get(0);
        }
        String names = new String[] {"sn", "dps", "tn"}[told.key];
        Deque<Open> open = new ArrayDeque<>();
        open.push(new Open(0));
        boolean wantsPiece = true;
        int nots = 0;
        for (int i = 1; i < pieces.size(); i++) {
            String s = pieces.get(i);
            Open inner = open.peek();
            if (wantsPiece && s.equals("!") && nots < 8) {
                nots++;
            } else if (wantsPiece && s.equals("(") && open.size() <= 8) {
                open.push(new Open(nots));
            } else if (wantsPiece && (s.matches("[0-9]{1,4}") || s.length() == 1 && names.contains(s))) {
                told.leaves++;
                wantsPiece = false;
                nots = inner.nots;
            } else if (!wantsPiece && "+-*/".contains(s)) {
                wantsPiece = true;
            } else if (!wantsPiece && "&|".contains(s)) {
                wantsPiece = true;
                inner.tested = false;
            } else if (!wantsPiece && "<=>".contains(s) && !inner.tested) {
                wantsPiece = true;
                inner.tested = true;
            } else if (!wantsPiece && s.equals(")") && open.size() > 1) {
                open.pop();
                nots = open.peek().nots;
            } else {
                return places.get(i);
            }
        }
        if (wantsPiece || open.size() > 1) {
            return tape.length;
        }
        told.formula = formula(pieces.subList(1, pieces.size()));
        return -1;
    }

    static Formula formula(List<String> pieces) {
        Deque<Formula> done = new ArrayDeque<>();
        Deque<String> signs = new ArrayDeque<>();
        for (String s : pieces) {
            if (s.equals("(") || s.equals("!")) {
                signs.push(s);
                continue;
            }
            if (sortOf(s.charAt(0)) == 1) {
                char c = s.charAt(0);
                done.push(v -> v[c]);
            } else if (sortOf(s.charAt(0)) == 2) {
                int n = Integer.parseInt(s);
                done.push(v -> n);
            } else if (s.equals(")")) {
                while (!signs.peek().equals("(")) {
                    work(done, signs.pop());
                }
                signs.pop();
            } else {
                while (!signs.isEmpty() && tightness(signs.peek()) >= tightness(s)) {
                    work(done, signs.pop());
                }
                signs.push(s);
                continue;
            }
            while (!signs.isEmpty() && signs.peek().equals("!")) {
                work(done, signs.pop());
            }
        }
        while (!signs.isEmpty()) {
            work(done, signs.pop());
        }
        return done.pop();
    }

    static int tightness(String sign) {
        return switch (sign) {
            case "|" -> 1;
            case "&" -> 2;
            case "<", "=", ">" -> 3;
            case "+", "-" -> 4;
            case "*", "/" -> 5;
            default -> 0;
        };
    }

    static void work(Deque<Formula> done, String sign) {
        Formula b = done.pop();
        if (sign.equals("!")) {
            done.push(v -> b.of(v) == 0 ? 1 : 0);
            return;
        }
        Formula a = done.pop();
        done.push(switch (sign) {
            case "|" -> v -> a.of(v) != 0 | b.of(v) != 0 ? 1 : 0;
            case "&" -> v -> a.of(v) != 0 & b.of(v) != 0 ? 1 : 0;
            case "<" -> v -> a.of(v) < b.of(v) ? 1 : 0;
            case "=" -> v -> a.of(v) == b.of(v) ? 1 : 0;
            case ">" -> v -> a.of(v) > b.of(v) ? 1 : 0;
            case "+" -> v -> a.of(v) + b.of(v);
            case "-" -> v -> a.of(v) - b.of(v);
            case "*" -> v -> a.of(v) * b.of(v);
            default -> v -> {
                int by = b.of(v);
                return by == 0 ? 0 : a.of(v) / by;
            };
        });
    }

    // ---- the object

    World w = new World();
    World image = null;
    /** A sheet is null, or a row: shorts without null, floats with null for NO NUMBER. */
    Short[][] shorts = new Short[4][];
    Float[][] floats = new Float[4][];
    Object[] slots = new Object[5];
    List<Integer> waiting = new ArrayList<>();
    byte[] tape = new byte[0];

    boolean out(int v, int least, int most) {
        return v < least || v > most;
    }

    boolean noFlame(int i) {
        return out(i, 0, w.candles.size() - 1);
    }

    boolean noPlace(int place) {
        return place < 0 || place / 100 > 29 || place % 100 > 29;
    }

    Object[] row(int sheet) {
        return shorts[sheet] != null ? shorts[sheet] : floats[sheet];
    }

    Integer number(Object place) {
        return place == null ? null : ((Number) place).intValue();
    }

    public int flame(int kind, int place, int size) {
        if (out(kind, 0, 5) || noPlace(place) || out(size, 1, 9)) {
            return BAD;
        }
        if (w.candles.size() == 8) {
            return FULL;
        }
        Candle c = new Candle();
        c.kind = kind; c.x = place / 100; c.y = place % 100; c.size = size;
        w.candles.add(c);
        return w.candles.size() - 1;
    }

    public int told(int flame, int what) {
        if (noFlame(flame) || out(what, 0, 9)) {
            return BAD;
        }
        Candle c = w.candles.get(flame);
        return new int[] {c.kind, c.x, c.y, c.size, c.phase, c.gas, c.flashes, w.pace(flame, c.kind), w.pushes(flame), c.worth(c.kind)}[what];
    }

    public int as(int flame, int kind) {
        if (noFlame(flame) || out(kind, 0, 5)) {
            return BAD;
        }
        return w.candles.get(flame).is(kind) ? w.candles.get(flame).size : KIND;
    }

    public int turns(int flame, int kind) {
        if (noFlame(flame) || out(kind, 0, 5)) {
            return BAD;
        }
        int was = w.candles.get(flame).kind;
        w.candles.get(flame).kind = kind;
        return was;
    }

    public int set(int flame, int what, int v) {
        if (noFlame(flame) || out(what, 0, 2) || out(v, what == 0 ? 1 : 0, new int[] {9, 119, 999}[what])) {
            return BAD;
        }
        Candle c = w.candles.get(flame);
        int was = new int[] {c.size, c.phase, c.gas}[what];
        switch (what) {
            case 0 -> c.size = v;
            case 1 -> c.phase = v;
            default -> c.gas = v;
        }
        return was;
    }

    public int move(int flame, int place) {
        if (noFlame(flame) || noPlace(place)) {
            return BAD;
        }
        Candle c = w.candles.get(flame);
        int far = Math.abs(c.x - place / 100) + Math.abs(c.y - place % 100);
        c.x = place / 100; c.y = place % 100;
        return far;
    }

    public int glass(int one, int other, int v) {
        if (noFlame(one) || noFlame(other) || one == other || out(v, 0, 1)) {
            return BAD;
        }
        int was = w.glass[one][other] ? 1 : 0;
        w.glass[one][other] = w.glass[other][one] = v == 1;
        return was;
    }

    public int reach(int what, int v) {
        if (out(what, 0, 1) || out(v, 0, 59)) {
            return BAD;
        }
        int was = what == 0 ? w.near : w.far;
        w.near = what == 0 ? v : w.near;
        w.far = what == 1 ? v : w.far;
        return was;
    }

    public int push(int one, int other) {
        return noFlame(one) || noFlame(other) || one == other ? BAD : w.push(one, other);
    }

    public int deal(int n) {
        if (out(n, 1, 8)) {
            return BAD;
        }
        int came = 0;
        while (came < n && w.candles.size() < 8) {
            Candle c = new Candle();
            c.kind = w.draw() % 5;
            c.x = w.draw() % 30;
            c.y = w.draw() % 30;
            c.size = w.draw() % 9 + 1;
            c.phase = w.draw() % 120;
            w.candles.add(c);
            came++;
        }
        return came;
    }

    public int seed(int v) {
        int was = w.z;
        w.z = v;
        return was;
    }

    public int run(int n) {
        if (out(n, 1, 60)) {
            return BAD;
        }
        int sum = 0;
        for (int i = 0; i < n; i++) {
            sum += w.tick();
        }
        return sum;
    }

    public int spread() {
        return w.spread();
    }

    public int groups(int v) {
        return out(v, 0, 119) ? BAD : w.groups(v);
    }

    public int soon(int v) {
        if (out(v, 0, 119)) {
            return BAD;
        }
        World t = w.twin();
        for (int i = 0; i <= 200; i++) {
            if (t.agrees(v)) {
                return i;
            }
            t.tick();
        }
        return NONE;
    }

    public int period() {
        World t = w.twin();
        for (int i = 1; i <= 300; i++) {
            t.tick();
            boolean same = true;
            for (int k = 0; k < t.candles.size(); k++) {
                same &= t.candles.get(k).phase == w.candles.get(k).phase;
            }
            if (same) {
                return i;
            }
        }
        return NONE;
    }

    public int film(int flame, int k) {
        if (noFlame(flame) || out(k, 1, 60)) {
            return BAD;
        }
        return round(w.after(k).candles.get(flame).phase - w.candles.get(flame).phase);
    }

    public int basin(int v) {
        if (out(v, 0, 119)) {
            return BAD;
        }
        int many = 0;
        for (int a = 0; a < 6; a++) {
            for (int b = 0; b < 6; b++) {
                World t = w.twin();
                List<Candle> lit = new ArrayList<>(t.candles);
                lit.removeIf(c -> c.gas == 0);
                if (lit.size() < 2) {
                    return NO;
                }
                lit.get(0).phase = 20 * a;
                lit.get(1).phase = 20 * b;
                many += t.after(30).agrees(v) ? 1 : 0;
            }
        }
        return many;
    }

    public int quiet(int flame, int what) {
        if (noFlame(flame) || out(what, 0, 1)) {
            return BAD;
        }
        Candle c = w.candles.get(flame);
        int least = Integer.MAX_VALUE, place = 0;
        for (int x = Math.max(0, c.x - 3); x <= Math.min(29, c.x + 3); x++) {
            for (int y = Math.max(0, c.y - 3); y <= Math.min(29, c.y + 3); y++) {
                World t = w.twin();
                t.candles.get(flame).x = x;
                t.candles.get(flame).y = y;
                int spread = t.after(10).spread();
                spread = spread == NONE ? 120 : spread;
                if (spread < least) {
                    least = spread;
                    place = 100 * x + y;
                }
            }
        }
        return what == 1 ? place : least == 120 ? NONE : least;
    }

    public int learn(int sheet, int flame) {
        if (out(sheet, 0, 3) || noFlame(flame)) {
            return BAD;
        }
        if (row(sheet) == null) {
            return NOTHING;
        }
        int best = 0, most = -1;
        for (int near = 0; near <= 29; near++) {
            World t = w.twin();
            t.near = near;
            int hits = 0;
            for (Object place : row(sheet)) {
                t.tick();
                Integer v = number(place);
                hits += v != null && v == t.candles.get(flame).phase ? 1 : 0;
            }
            if (hits > most) {
                most = hits;
                best = near;
            }
        }
        return best;
    }

    public int feed(int a, int b, int c) {
        if (tape.length + 12 > 96) {
            return FULL;
        }
        byte[] longer = Arrays.copyOf(tape, tape.length + 12);
        java.nio.ByteBuffer.wrap(longer, tape.length, 12).putInt(a).putInt(b).putInt(c);
        tape = longer;
        return tape.length;
    }

    public int trim(int n) {
        if (out(n, 0, tape.length)) {
            return BAD;
        }
        tape = Arrays.copyOf(tape, n);
        return n;
    }

    public int text() {
        Told told = new Told();
        int fault = fault(tape, told);
        tape = new byte[0];
        if (fault >= 0) {
            return -100 - fault;
        }
        if (w.texts.size() == 14) {
            return FULL;
        }
        w.texts.add(told);
        return w.texts.size() - 1;
    }

    public int textTold(int text, int what) {
        if (out(text, 0, w.texts.size() - 1) || out(what, 0, 1)) {
            return BAD;
        }
        return what == 0 ? w.texts.get(text).key : w.texts.get(text).leaves;
    }

    public int why(int key) {
        return out(key, 0, 2) ? BAD : w.counting(key) < 0 ? NONE : w.counting(key);
    }

    public int sheet(int sheet, int sort, int n) {
        if (out(sheet, 0, 3) || out(sort, -1, 1) || sort >= 0 && n > 24) {
            return BAD;
        }
        if (sort >= 0 && n < 0) {
            return SIZE;
        }
        shorts[sheet] = null;
        floats[sheet] = null;
        if (sort == 0) {
            shorts[sheet] = new Short[n];
            Arrays.fill(shorts[sheet], (short) 0);
        } else if (sort == 1) {
            floats[sheet] = new Float[n];
            Arrays.fill(floats[sheet], 0f);
        }
        return sort < 0 ? 0 : n;
    }

    public int mark(int sheet, int place, int v) {
        if (out(sheet, 0, 3)) {
            return BAD;
        }
        if (row(sheet) == null) {
            return NOTHING;
        }
        if (out(place, 0, row(sheet).length - 1)) {
            return INDEX;
        }
        if (shorts[sheet] != null) {
            if (v == NONE) {
                return KIND;
            }
            shorts[sheet][place] = (short) v;
            return 1;
        }
        if (v != NONE && out(v, -99999, 99999)) {
            return BAD;
        }
        floats[sheet][place] = v == NONE ? null : Float.valueOf(v);
        return 1;
    }

    public int pour(int sheet) {
        if (out(sheet, 0, 3)) {
            return BAD;
        }
        if (row(sheet) == null) {
            return NOTHING;
        }
        int many = 0;
        for (int i = 0; i < Math.min(row(sheet).length, w.candles.size()); i++) {
            Integer v = number(row(sheet)[i]);
            int was = w.candles.get(i).phase;
            if (v != null && v >= 0 && v < 120) {
                w.candles.get(i).phase = v;
            }
            many += w.candles.get(i).phase != was ? 1 : 0;
        }
        return many;
    }

    public int reads(int sheet) {
        if (out(sheet, 0, 3)) {
            return BAD;
        }
        if (row(sheet) == null) {
            return NOTHING;
        }
        for (int i = 0; i < row(sheet).length; i++) {
            Integer v = number(row(sheet)[i]);
            if (v != null && (i >= w.candles.size() || w.candles.get(i).phase != v)) {
                return i;
            }
        }
        return NONE;
    }

    public int copy(int from, int place, int to, int at, int many) {
        if (out(from, 0, 3) || out(to, 0, 3)) {
            return BAD;
        }
        if (row(from) == null || row(to) == null) {
            return NOTHING;
        }
        if (shorts[from] == null != (shorts[to] == null)) {
            return KIND;
        }
        try {
            System.arraycopy(row(from), place, row(to), at, many);
        } catch (IndexOutOfBoundsException e) {
            return INDEX;
        }
        return many;
    }

    int holds(Object o) {
        return o == null ? 0 : o instanceof Candle ? 1 : o instanceof Object[] ? 2 : 3;
    }

    public int lay(int slot, int thing, int k) {
        if (out(slot, 0, 4) || out(thing, 0, 3) || thing == 1 && noFlame(k) || thing == 2 && out(k, 0, 3)) {
            return BAD;
        }
        if (thing == 2 && row(k) == null) {
            return NOTHING;
        }
        int was = holds(slots[slot]);
        switch (thing) {
            case 0 -> slots[slot] = null;
            case 1 -> slots[slot] = w.candles.get(k).twin();
            case 2 -> slots[slot] = row(k).clone();
            default -> slots[slot] = Integer.valueOf(k);
        }
        return was;
    }

    public int ask(int slot, int kind) {
        if (out(slot, 0, 4) || out(kind, 0, 5)) {
            return BAD;
        }
        if (slots[slot] == null) {
            return NOTHING;
        }
        return slots[slot] instanceof Candle c && c.is(kind) ? c.worth(c.kind) : KIND;
    }

    public int item(int slot, int place) {
        if (out(slot, 0, 4)) {
            return BAD;
        }
        if (slots[slot] == null) {
            return NOTHING;
        }
        if (!(slots[slot] instanceof Object[] row)) {
            return KIND;
        }
        if (out(place, 0, row.length - 1)) {
            return INDEX;
        }
        return row[place] == null ? KIND : number(row[place]);
    }

    public int rest(int slot, int n) {
        if (out(slot, 0, 4)) {
            return BAD;
        }
        if (slots[slot] == null) {
            return NOTHING;
        }
        if (!(slots[slot] instanceof Integer v)) {
            return KIND;
        }
        return n == 0 ? NO : (int) ((long) v % n);
    }

    public int tell(int v) {
        if (waiting.size() == 60) {
            return FULL;
        }
        waiting.add(v);
        return waiting.size();
    }

    public int check(int n) {
        List<Integer> told = waiting;
        waiting = new ArrayList<>();
        if (out(n, 1, 30)) {
            return BAD;
        }
        if (image == null) {
            return NO;
        }
        List<Integer> due = new ArrayList<>();
        World t = image.twin();
        for (int i = 0; i < n; i++) {
            int flashed = t.tick();
            due.add(t.spread());
            due.add(flashed);
        }
        int right = 0;
        while (right < told.size() && right < due.size() && told.get(right).equals(due.get(right))) {
            right++;
        }
        return right == told.size() && right == due.size() ? 0 : 1 + right;
    }

    public int keep() {
        image = w.twin();
        return w.candles.size();
    }

    public int back() {
        if (image == null) {
            return NO;
        }
        w = image.twin();
        return w.candles.size();
    }

    public int count(int what) {
        if (out(what, 0, 8)) {
            return BAD;
        }
        int lit = (int) w.candles.stream().filter(c -> c.gas > 0).count();
        return new int[] {w.candles.size(), lit, w.tick, w.near, w.far, w.texts.size(), waiting.size(), tape.length, w.z}[what];
    }
}
