/**
 * All that can be told of an object, as texts that two objects can be compared by. Taking it uses the object up (the tape is read, the image comes back):
 * it is taken of twins alone.
 */
final class Snapshot {
    /** What is neither of the tape nor of the numbers that wait, then these two. */
    final String rest, waiting, tape;
    private final CandleTurns x;
    private StringBuilder all = new StringBuilder();
    private int calls = 0;

    Snapshot(CandleTurns x) {
        this.x = x;
        room();
        slots();
        sheets();
        String ahead = taken();
        waiting();
        waiting = taken();
        ticksToCome();
        if (tells("back", x.back()) >= 0) {
            room();
            ticksToCome();
        }
        rest = ahead + taken();
        tape();
        tape = taken();
    }

    int calls() {
        return calls;
    }

    private String taken() {
        String told = all.toString();
        all = new StringBuilder();
        return told;
    }

    private int tells(String what, int v) {
        calls++;
        all.append(what).append(' ').append(v).append('\n');
        return v;
    }

    private void room() {
        for (int what : new int[] {1, 2, 3, 4, 8}) {
            tells("count " + what, x.count(what));
        }
        int flames = tells("flames", x.count(0));
        for (int i = 0; i < flames; i++) {
            for (int what = 0; what <= 9; what++) {
                tells("told " + i + " " + what, x.told(i, what));
            }
        }
        for (int i = 0; i < flames; i++) {
            for (int k = 0; k < i; k++) {
                if (tells("glass " + i + " " + k, x.glass(i, k, 0)) == 1) {
                    tells("glass again", x.glass(i, k, 1));
                }
            }
        }
        int texts = tells("texts", x.count(5));
        for (int i = 0; i < texts; i++) {
            tells("key of " + i, x.textTold(i, 0));
            tells("leaves of " + i, x.textTold(i, 1));
        }
        for (int key = 0; key < 3; key++) {
            tells("why " + key, x.why(key));
        }
    }

    private void slots() {
        for (int slot = 0; slot < 5; slot++) {
            if (tells("slot " + slot, x.item(slot, 24)) == Due.INDEX) {
                items(slot);
            } else if (tells("worth", x.ask(slot, 0)) >= -2) {
                for (int kind = 1; kind < 6; kind++) {
                    tells("as " + kind, x.ask(slot, kind));
                }
            } else {
                tells("number", x.rest(slot, Integer.MAX_VALUE));
                tells("number", x.rest(slot, Integer.MIN_VALUE));
            }
        }
    }

    private void items(int slot) {
        for (int place = 0; tells("item " + place, x.item(slot, place)) != Due.INDEX; place++) {
            continue;
        }
    }

    private void sheets() {
        for (int sheet = 0; sheet < 4; sheet++) {
            if (tells("sheet " + sheet, x.lay(4, 2, sheet)) != Due.NOTHING) {
                items(4);
            }
            tells("reads", x.reads(sheet));
        }
        for (int sheet = 0; sheet < 3; sheet++) {
            tells("of one sort as the next", x.copy(sheet, 0, sheet + 1, 0, 0));
        }
        for (int sheet = 0; sheet < 4; sheet++) {
            tells("sort of " + sheet, x.mark(sheet, 0, Due.NONE));
        }
    }

    private void waiting() {
        int waits = tells("waits", x.count(6));
        tells("rows", x.check(Math.max(1, Math.min(30, waits / 2))));
    }

    private void ticksToCome() {
        for (int tick = 0; tick < 2; tick++) {
            tells("flashed", x.run(1));
            tells("spread", x.spread());
            tells("z", x.count(8));
        }
        int flames = tells("flames", x.count(0));
        for (int i = 0; i < flames; i++) {
            tells("phase", x.told(i, 4));
        }
    }

    private void tape() {
        tells("bytes", x.count(7));
        int number = tells("text", x.text());
        if (number >= 0) {
            tells("its key", x.textTold(number, 0));
            tells("its leaves", x.textTold(number, 1));
        }
    }
}
