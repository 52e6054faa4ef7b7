import java.lang.reflect.InvocationTargetException;
import java.lang.reflect.Method;
import java.nio.charset.StandardCharsets;
import java.util.ArrayList;
import java.util.Arrays;
import java.util.HashMap;
import java.util.List;
import java.util.Map;
import java.util.Set;

/**
 * Rows of calls on one object, as texts, each with the answer that is due: "flame 0 1010 5 = 0". Behind each call that only asks, or is refused, or whose
 * row ends with "same", two twins of the object are compared, one of which made that call: it may have changed nothing but what the document tells.
 */
final class Rows {
    static final int MIN = Integer.MIN_VALUE, MAX = Integer.MAX_VALUE;
    static final int CALLS_MOST = 512;
    private static final Set<String> ASKING = Set.of("told", "as", "push", "spread", "groups", "soon", "period", "film", "basin", "quiet", "learn", "textTold", "why", "reads",
        "ask", "item", "rest", "count");
    private static final Map<String, Integer> NUMBERS = Map.of("BAD", Due.BAD, "NO", Due.NO, "FULL", Due.FULL, "NONE", Due.NONE, "NOTHING", Due.NOTHING, "KIND", Due.KIND,
        "INDEX", Due.INDEX, "SIZE", Due.SIZE, "MIN", MIN, "MAX", MAX);
    private static final Set<Integer> REFUSALS = Set.of(Due.BAD, Due.NO, Due.FULL, Due.NOTHING, Due.KIND, Due.INDEX, Due.SIZE);
    private static final Map<String, Method> METHODS = new HashMap<>();

    static {
        for (Method m : CandleTurns.class.getMethods()) {
            METHODS.put(m.getName() + m.getParameterCount(), m);
        }
    }

    /** One call; its answer is null, if it threw. */
    private record Call(String name, int[] args) {
        static Call of(String row) {
            String[] words = row.strip().split("\\s+");
            int[] args = new int[words.length - 1];
            for (int i = 0; i < args.length; i++) {
                args[i] = numberOf(words[i + 1]);
            }
            if (!METHODS.containsKey(words[0] + args.length)) {
                throw new IllegalArgumentException("no call: " + row);
            }
            return new Call(words[0], args);
        }

        Integer on(CandleTurns x) {
            try {
                return (Integer) METHODS.get(name + args.length).invoke(x, Arrays.stream(args).boxed().toArray());
            } catch (InvocationTargetException e) {
                System.out.println(this + " threw " + e.getCause());
                return null;
            } catch (IllegalAccessException e) {
                throw new IllegalStateException(e);
            }
        }

        @Override
        public String toString() {
            return name + Arrays.toString(args);
        }
    }

    private final Due due;
    private final List<String> said = new ArrayList<>();
    private String about = "";
    private CandleTurns x = new CandleTurns();
    private int made = 0;
    private final List<Call> changes = new ArrayList<>();
    private Snapshot ofTwin = null;

    Rows(Due due) {
        this.due = due;
    }

    /** The words of the document that the rows to come are about. */
    void says(String words) {
        said.add(words);
        about = words;
    }

    List<String> said() {
        return said;
    }

    /** A new object, and the rows that come first on it. */
    void begin(String... rows) {
        x = new CandleTurns();
        made = 0;
        changes.clear();
        ofTwin = null;
        go(rows);
    }

    void go(String... parts) {
        for (String part : parts) {
            for (String row : part.split("[;\n]")) {
                if (!row.isBlank()) {
                    makeRow(row.strip());
                }
            }
        }
    }

    private void makeRow(String row) {
        boolean same = row.endsWith(" same");
        String[] sides = (same ? row.substring(0, row.length() - 5) : row).split("=");
        Call call = Call.of(sides[0]);
        Integer got = call.on(x);
        made++;
        if (made > CALLS_MOST) {
            throw new IllegalStateException("the document tells nothing of this call: " + told(row));
        }
        if (got == null) {
            due.holds(told(row) + " does not throw", false);
            return;
        }
        if (sides.length > 1) {
            due.due(told(row), got, numberOf(sides[1].strip()));
        }
        if (same || call.name.equals("check") || ASKING.contains(call.name) || isRefused(call, got)) {
            changedNothing(call, row);
        }
        if (!same && !ASKING.contains(call.name) && (!isRefused(call, got) || call.name.equals("text")) || call.name.equals("check")) {
            changes.add(call);
            ofTwin = null;
        }
    }

    /** A row that only asks, on an object of so many calls that none are left for comparing twins. */
    void lastRow(String row) {
        String[] sides = row.split("=");
        Integer got = Call.of(sides[0]).on(x);
        made++;
        due.holds(told(row) + " comes within 512 calls and does not throw", got != null && made <= CALLS_MOST);
        due.due(told(row), got == null ? MIN : got, numberOf(sides[1].strip()));
    }

    private String told(String row) {
        return "\"" + about + "\" " + changes.size() + ": " + row;
    }

    private static int numberOf(String word) {
        return NUMBERS.containsKey(word) ? NUMBERS.get(word) : Integer.parseInt(word);
    }

    private static boolean isRefused(Call call, int got) {
        return !call.name.equals("seed") && (REFUSALS.contains(got) || call.name.equals("text") && got <= -100);
    }

    private CandleTurns twin() {
        CandleTurns twin = new CandleTurns();
        for (Call call : changes) {
            call.on(twin);
        }
        return twin;
    }

    private void changedNothing(Call call, String row) {
        if (ofTwin == null) {
            ofTwin = new Snapshot(twin());
        }
        CandleTurns other = twin();
        call.on(other);
        boolean usesTape = call.name.equals("text");
        boolean usesWaiting = call.name.equals("check");
        if (usesTape) {
            due.due(told(row) + " uses the tape up", other.count(7), 0);
        }
        if (usesWaiting) {
            due.due(told(row) + ": no numbers wait then", other.count(6), 0);
        }
        Snapshot behind = new Snapshot(other);
        if (changes.size() + behind.calls() + 2 > CALLS_MOST) {
            throw new IllegalStateException("the document tells nothing of this twin: " + told(row));
        }
        due.holds(told(row) + " changes nothing", behind.rest.equals(ofTwin.rest));
        due.holds(told(row) + " leaves what waits", usesWaiting || behind.waiting.equals(ofTwin.waiting));
        due.holds(told(row) + " leaves the tape", usesTape || behind.tape.equals(ofTwin.tape));
    }

    /** These rows, made on a twin, come to what is now. */
    void comesToTheSame(String rows) {
        if (ofTwin == null) {
            ofTwin = new Snapshot(twin());
        }
        CandleTurns other = twin();
        for (String row : rows.split("[;\n]")) {
            if (!row.isBlank()) {
                String[] sides = row.split("=");
                Integer got = Call.of(sides[0]).on(other);
                if (sides.length > 1) {
                    due.due(told(row.strip()), got == null ? MIN : got, numberOf(sides[1].strip()));
                }
            }
        }
        Snapshot behind = new Snapshot(other);
        due.holds(told(rows) + " comes to the same", behind.rest.equals(ofTwin.rest) && behind.waiting.equals(ofTwin.waiting) && behind.tape.equals(ofTwin.tape));
    }

    /** For % the least and the most are not refused, on a twin; what is beyond them is, and changes nothing. */
    void bounds(String row, int least, int most, String refusal) {
        within(row, least, most);
        for (int v : new int[] {least - 1, most + 1, MIN, MAX}) {
            go(row.replace("%", String.valueOf(v)) + " = " + refusal);
        }
    }

    void within(String row, int... values) {
        for (int v : values) {
            Call call = Call.of(row.replace("%", String.valueOf(v)));
            Integer got = call.on(twin());
            due.holds(told(call.toString()) + " is not refused", got != null && !isRefused(call, got));
        }
    }

    /** Bytes come to the tape, which has to be empty ahead of this. */
    void tape(String bytes) {
        byte[] all = bytes.getBytes(StandardCharsets.ISO_8859_1);
        for (int i = 0; i < all.length; i += 12) {
            go("feed " + Due.four(all, i) + " " + Due.four(all, i + 4) + " " + Due.four(all, i + 8));
        }
        go("trim " + all.length + " = " + all.length);
    }

    void text(String bytes, String answer) {
        tape(bytes);
        int wrong = due.wrong();
        go("text = " + answer);
        if (due.wrong() > wrong) {
            System.out.println("  it was the text '" + bytes + "'");
        }
    }

    /** A text on a new object: its fault is at this place; below 0: it has none. */
    void fault(String bytes, int place) {
        begin();
        text(bytes, place < 0 ? "0" : String.valueOf(-100 - place));
    }
}
