import java.nio.charset.StandardCharsets;

/** What the project's tests share: answers that are due, and texts that are fed. */
final class Due {
    static final int BAD = -1000000001, NO = -1000000002, FULL = -1000000003, NONE = -1000000005;
    static final int NOTHING = -1000000011, KIND = -1000000012, INDEX = -1000000013, SIZE = -1000000014;

    private int wrong = 0;
    private int asked = 0;

    void due(String what, int got, int want) {
        asked++;
        if (got != want) {
            wrong++;
            System.out.println(what + " answered " + got + ", due is " + want);
        }
    }

    void holds(String what, boolean is) {
        due(what, is ? 1 : 0, 1);
    }

    int wrong() {
        return wrong;
    }

    void end() {
        System.out.println(wrong == 0 ? asked + " answers are as due" : wrong + " of " + asked + " answers are not as due");
        if (wrong != 0) {
            System.exit(1);
        }
    }

    /** The tape, which has to be empty ahead of this, holds just these bytes. */
    static void put(CandleTurns x, byte[] bytes) {
        for (int i = 0; i < bytes.length; i += 12) {
            x.feed(four(bytes, i), four(bytes, i + 4), four(bytes, i + 8));
        }
        x.trim(bytes.length);
    }

    static int four(byte[] bytes, int from) {
        int v = 0;
        for (int i = from; i < from + 4; i++) {
            v = v << 8 | (i < bytes.length ? bytes[i] & 255 : 32);
        }
        return v;
    }

    static int text(CandleTurns x, String text) {
        put(x, text.getBytes(StandardCharsets.ISO_8859_1));
        return x.text();
    }

    /** The state as far as calls that change nothing tell it, so that refused calls can be seen to change nothing. */
    static String state(CandleTurns x) {
        StringBuilder all = new StringBuilder();
        for (int what = 0; what <= 8; what++) {
            all.append(x.count(what)).append(' ');
        }
        for (int i = 0; i < x.count(0); i++) {
            for (int what = 0; what <= 9; what++) {
                all.append(x.told(i, what)).append(' ');
            }
        }
        for (int key = 0; key < 3; key++) {
            all.append(x.why(key)).append(' ');
        }
        for (int slot = 0; slot < 5; slot++) {
            all.append(x.ask(slot, 0)).append(' ').append(x.item(slot, 0)).append(' ').append(x.rest(slot, 1000003)).append(' ');
        }
        for (int sheet = 0; sheet < 4; sheet++) {
            all.append(x.reads(sheet)).append(' ');
        }
        return all.toString();
    }
}
