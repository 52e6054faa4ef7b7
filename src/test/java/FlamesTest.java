/** Promises 1 to 12: flames, places, glass, reaches, lots. */
public final class FlamesTest {
    static final int BAD = Due.BAD, NO = Due.NO, FULL = Due.FULL, NONE = Due.NONE, NOTHING = Due.NOTHING, KIND = Due.KIND;
    static final int[] ODD = {Integer.MIN_VALUE, -1, 8, 100, Integer.MAX_VALUE};
    static final Due DUE = new Due();

    public static void main(String[] args) {
        promise1ANewObject();
        promise2Flame();
        promise3Told();
        promise4As();
        promise5Turns();
        promise6Set();
        promise7Move();
        promise8Glass();
        promise9Reach();
        promise10Push();
        promise11Deal();
        promise12Seed();
        DUE.end();
    }

    static void promise1ANewObject() {
        CandleTurns x = new CandleTurns();
        int[] counts = {0, 0, 0, 4, 9, 0, 0, 0, 1};
        for (int what = 0; what < counts.length; what++) {
            DUE.due("new: count(" + what + ")", x.count(what), counts[what]);
        }
        DUE.due("new: told", x.told(0, 0), BAD);
        DUE.due("new: spread", x.spread(), NONE);
        DUE.due("new: back", x.back(), NO);
        for (int i = 0; i < 4; i++) {
            DUE.due("new: reads", x.reads(i), NOTHING);
        }
        for (int i = 0; i < 5; i++) {
            DUE.due("new: ask", x.ask(i, 0), NOTHING);
        }
        for (int i = 0; i < 3; i++) {
            DUE.due("new: why", x.why(i), NONE);
        }
        CandleTurns other = new CandleTurns();
        other.flame(0, 0, 1);
        DUE.due("objects are apart", x.count(0), 0);
    }

    static void promise2Flame() {
        CandleTurns x = new CandleTurns();
        int[] badPlaces = {-1, -100, 30, 99, 130, 2930, 3000, 3029, Integer.MAX_VALUE, Integer.MIN_VALUE};
        for (int place : badPlaces) {
            DUE.due("flame at " + place, x.flame(0, place, 1), BAD);
        }
        for (int kind : new int[] {-1, 6, Integer.MAX_VALUE}) {
            DUE.due("flame of kind " + kind, x.flame(kind, 0, 1), BAD);
        }
        for (int size : new int[] {0, 10, -1, Integer.MIN_VALUE}) {
            DUE.due("flame of size " + size, x.flame(0, 0, size), BAD);
        }
        DUE.due("no flame came", x.count(0), 0);
        int[] places = {0, 29, 2900, 2929, 512, 512, 1, 100};
        for (int i = 0; i < 8; i++) {
            DUE.due("flame " + i, x.flame(i % 6, places[i], 1 + i), i);
            DUE.due("its x", x.told(i, 1), places[i] / 100);
            DUE.due("its y", x.told(i, 2), places[i] % 100);
            DUE.due("its size", x.told(i, 3), 1 + i);
        }
        DUE.due("a ninth", x.flame(0, 0, 1), FULL);
        DUE.due("a ninth that is bad", x.flame(6, 0, 1), BAD);
        DUE.due("flames", x.count(0), 8);
    }

    static void promise3Told() {
        int[] paces = {9, 10, 4, 20, 0, 11};
        int[] worths = {3, 7, 6, 14, 4, 9};
        CandleTurns x = new CandleTurns();
        for (int kind = 0; kind < 6; kind++) {
            x.flame(kind, 1005 + 100 * kind, 3);
            int[] due = {kind, 10 + kind, 5, 3, 0, 999, 0, paces[kind], 0, worths[kind]};
            for (int what = 0; what < 10; what++) {
                DUE.due("kind " + kind + " told " + what, x.told(kind, what), due[what]);
            }
        }
        for (int what : new int[] {-1, 10, Integer.MIN_VALUE}) {
            DUE.due("told what " + what, x.told(0, what), BAD);
        }
        for (int flame : new int[] {-1, 6, 8, Integer.MAX_VALUE}) {
            DUE.due("told of " + flame, x.told(flame, 0), BAD);
        }
        x.set(4, 0, 9);
        DUE.due("worth of a great still one", x.told(4, 9), -2);
        x.set(2, 0, 9);
        DUE.due("worth of a great one against", x.told(2, 9), 0);
        DUE.due("pace of a great one against, cut", x.told(2, 7), 1);
        pushesAreTogether();
        flashesAreCounted();
    }

    static void pushesAreTogether() {
        CandleTurns x = new CandleTurns();
        x.flame(0, 1010, 1);
        x.flame(1, 1011, 1);
        x.flame(4, 1016, 1);
        x.flame(0, 2929, 1);
        x.set(1, 1, 40);
        x.set(2, 1, 20);
        x.set(3, 1, 30);
        DUE.due("40 near, 20 far, one beyond", x.told(0, 8), 10 - 5);
        DUE.due("told are pushes, not what a kind makes of them", x.told(1, 8), -10 + 5);
        x.set(0, 2, 0);
        DUE.due("one that is not lit is not pushed", x.told(0, 8), 0);
        DUE.due("nor does it push", x.told(1, 8), 5);
    }

    static void flashesAreCounted() {
        CandleTurns x = new CandleTurns();
        x.flame(0, 0, 2);
        DUE.due("12 ticks of pace 10", x.run(12), 1);
        DUE.due("flashes", x.told(0, 6), 1);
        DUE.due("phase", x.told(0, 4), 0);
        DUE.due("gas", x.told(0, 5), 999 - 24);
        x.run(36);
        DUE.due("flashes so far", x.told(0, 6), 4);
    }

    static void promise4As() {
        String[] under = {"0", "01", "02", "013", "024", "05"};
        CandleTurns x = new CandleTurns();
        for (int kind = 0; kind < 6; kind++) {
            x.flame(kind, 0, kind + 2);
            for (int as = 0; as < 6; as++) {
                boolean is = under[kind].indexOf('0' + as) >= 0;
                DUE.due("kind " + kind + " as " + as, x.as(kind, as), is ? kind + 2 : KIND);
            }
        }
        DUE.due("as -1", x.as(0, -1), BAD);
        DUE.due("as 6", x.as(0, 6), BAD);
        for (int flame : ODD) {
            DUE.due("as of " + flame, x.as(flame, 0), BAD);
        }
        x.turns(1, 2);
        DUE.due("as it turned", x.as(1, 1), KIND);
    }

    static void promise5Turns() {
        CandleTurns x = new CandleTurns();
        x.flame(3, 707, 3);
        x.set(0, 1, 17);
        DUE.due("turns to still", x.turns(0, 4), 3);
        DUE.due("it is still", x.told(0, 0), 4);
        DUE.due("its pace", x.told(0, 7), 0);
        DUE.due("its phase stays", x.told(0, 4), 17);
        DUE.due("turns to what it is", x.turns(0, 4), 4);
        DUE.due("turns 6", x.turns(0, 6), BAD);
        DUE.due("turns -1", x.turns(0, -1), BAD);
        DUE.due("turns of none", x.turns(1, 0), BAD);
        DUE.due("turns of -1", x.turns(-1, 0), BAD);
        DUE.due("it is still the same", x.told(0, 0), 4);
    }

    static void promise6Set() {
        CandleTurns x = new CandleTurns();
        x.flame(0, 0, 5);
        int[] whats = {0, 1, 2};
        int[] firsts = {5, 0, 999};
        int[] leasts = {1, 0, 0};
        int[] mosts = {9, 119, 999};
        for (int what : whats) {
            DUE.due("below", x.set(0, what, leasts[what] - 1), BAD);
            DUE.due("above", x.set(0, what, mosts[what] + 1), BAD);
            DUE.due("it stays", x.told(0, 3 + what), firsts[what]);
            DUE.due("least", x.set(0, what, leasts[what]), firsts[what]);
            DUE.due("is least", x.told(0, 3 + what), leasts[what]);
            DUE.due("most", x.set(0, what, mosts[what]), leasts[what]);
            DUE.due("is most", x.told(0, 3 + what), mosts[what]);
        }
        DUE.due("set 3", x.set(0, 3, 1), BAD);
        DUE.due("set -1", x.set(0, -1, 1), BAD);
        for (int flame : ODD) {
            DUE.due("set of " + flame, x.set(flame, 1, 1), BAD);
        }
        DUE.due("none of one flame", x.set(1, 1, 1), BAD);
    }

    static void promise7Move() {
        CandleTurns x = new CandleTurns();
        x.flame(0, 1005, 5);
        DUE.due("move", x.move(0, 720), 18);
        DUE.due("x", x.told(0, 1), 7);
        DUE.due("y", x.told(0, 2), 20);
        DUE.due("move nowhere", x.move(0, 720), 0);
        DUE.due("move to a corner", x.move(0, 2929), 31);
        DUE.due("move to the other", x.move(0, 0), 58);
        for (int place : new int[] {-1, 30, 2930, 3000, Integer.MAX_VALUE, Integer.MIN_VALUE}) {
            DUE.due("move to " + place, x.move(0, place), BAD);
        }
        DUE.due("move of none", x.move(1, 0), BAD);
        DUE.due("it stays", x.told(0, 1) + x.told(0, 2), 0);
    }

    static void promise8Glass() {
        CandleTurns x = new CandleTurns();
        x.flame(0, 0, 5);
        x.flame(0, 1, 5);
        x.flame(0, 2, 5);
        x.set(0, 1, 40);
        DUE.due("glass", x.glass(2, 0, 1), 0);
        DUE.due("behind it", x.push(2, 0), 0);
        DUE.due("from the other side", x.push(0, 2), 0);
        DUE.due("not behind it", x.push(1, 0), 10);
        DUE.due("again", x.glass(0, 2, 1), 1);
        DUE.due("away", x.glass(0, 2, 0), 1);
        DUE.due("away again", x.glass(2, 0, 0), 0);
        DUE.due("no longer behind it", x.push(2, 0), 10);
        DUE.due("one and itself", x.glass(1, 1, 1), BAD);
        DUE.due("v 2", x.glass(0, 1, 2), BAD);
        DUE.due("v -1", x.glass(0, 1, -1), BAD);
        DUE.due("one of none", x.glass(3, 0, 1), BAD);
        DUE.due("other of none", x.glass(0, 3, 1), BAD);
        DUE.due("one of -1", x.glass(-1, 0, 1), BAD);
        DUE.due("nothing came of that", x.glass(0, 1, 0), 0);
    }

    static void promise9Reach() {
        CandleTurns x = new CandleTurns();
        x.flame(0, 0, 5);
        x.flame(0, 6, 5);
        x.set(1, 1, 40);
        DUE.due("far", x.push(0, 1), -10);
        DUE.due("near 5", x.reach(0, 5), 4);
        DUE.due("still far", x.push(0, 1), -10);
        DUE.due("near 6", x.reach(0, 6), 5);
        DUE.due("near", x.push(0, 1), 10);
        DUE.due("far 3", x.reach(1, 3), 9);
        DUE.due("near goes first", x.push(0, 1), 10);
        DUE.due("near 0", x.reach(0, 0), 6);
        DUE.due("beyond", x.push(0, 1), 0);
        DUE.due("far 6", x.reach(1, 6), 3);
        DUE.due("far again", x.push(0, 1), -10);
        DUE.due("far 59", x.reach(1, 59), 6);
        DUE.due("near 59", x.reach(0, 59), 0);
        for (int v : new int[] {-1, 60, Integer.MAX_VALUE}) {
            DUE.due("near " + v, x.reach(0, v), BAD);
            DUE.due("far " + v, x.reach(1, v), BAD);
        }
        DUE.due("what 2", x.reach(2, 1), BAD);
        DUE.due("what -1", x.reach(-1, 1), BAD);
        DUE.due("near is", x.count(3), 59);
        DUE.due("far is", x.count(4), 59);
    }

    static void promise10Push() {
        CandleTurns x = new CandleTurns();
        x.flame(0, 1010, 5);
        x.flame(0, 1212, 5);
        int[] own = {0, 0, 0, 60, 119, 0, 100, 7, 0};
        int[] its = {59, 60, 61, 0, 0, 119, 10, 4, 3};
        int[] due = {14, -15, -14, -15, 0, 0, 7, 0, 0};
        for (int i = 0; i < own.length; i++) {
            x.set(0, 1, own[i]);
            x.set(1, 1, its[i]);
            DUE.due("phases " + own[i] + ", " + its[i], x.push(0, 1), due[i]);
        }
        x.set(0, 1, 10);
        x.set(1, 1, 1);
        DUE.due("cut towards 0", x.push(0, 1), -2);
        x.move(1, 1510);
        DUE.due("far, cut towards 0", x.push(0, 1), 2);
        x.move(1, 1514);
        DUE.due("9 is far", x.push(0, 1), 2);
        x.move(1, 1515);
        DUE.due("10 is beyond", x.push(0, 1), 0);
        x.move(1, 806);
        DUE.due("6, the other way", x.push(0, 1), 2);
        x.set(1, 2, 0);
        DUE.due("it is not lit", x.push(0, 1), 0);
        x.set(1, 2, 1);
        DUE.due("it is lit", x.push(0, 1), 2);
        x.set(0, 2, 0);
        DUE.due("the one itself is not", x.push(0, 1), 0);
        DUE.due("one and itself", x.push(1, 1), BAD);
        DUE.due("one of none", x.push(2, 0), BAD);
        DUE.due("by none", x.push(0, 2), BAD);
        DUE.due("by -1", x.push(0, -1), BAD);
    }

    static void promise11Deal() {
        CandleTurns x = new CandleTurns();
        for (int n : new int[] {0, 9, -1, Integer.MIN_VALUE, Integer.MAX_VALUE}) {
            DUE.due("deal " + n, x.deal(n), BAD);
        }
        DUE.due("no draws", x.count(8), 1);
        x.flame(5, 0, 1);
        DUE.due("deal 2", x.deal(2), 2);
        int z = 1;
        for (int i = 1; i <= 2; i++) {
            int[] drawn = new int[5];
            for (int k = 0; k < 5; k++) {
                z = z * 1103515245 + 12345;
                drawn[k] = z >>> 8;
            }
            int[] due = {drawn[0] % 5, drawn[1] % 30, drawn[2] % 30, 1 + drawn[3] % 9, drawn[4] % 120, 999, 0};
            for (int what = 0; what < due.length; what++) {
                DUE.due("drawn " + i + " told " + what, x.told(i, what), due[what]);
            }
        }
        DUE.due("z", x.count(8), z);
        DUE.due("deal what there is room for", x.deal(8), 5);
        for (int i = 0; i < 25; i++) {
            z = z * 1103515245 + 12345;
        }
        DUE.due("no draws for others", x.count(8), z);
        DUE.due("no room", x.deal(8), 0);
        DUE.due("no draws without room", x.count(8), z);
        DUE.due("bad without room", x.deal(9), BAD);
        CandleTurns one = new CandleTurns();
        one.seed(2);
        DUE.due("deal 1", one.deal(1), 1);
        int fifth = 2;
        for (int i = 0; i < 5; i++) {
            fifth = fifth * 1103515245 + 12345;
        }
        DUE.due("its phase", one.told(0, 4), (fifth >>> 8) % 120);
        DUE.due("deal 8", new CandleTurns().deal(8), 8);
    }

    static void promise12Seed() {
        CandleTurns x = new CandleTurns();
        DUE.due("seed", x.seed(Integer.MIN_VALUE), 1);
        DUE.due("z", x.count(8), Integer.MIN_VALUE);
        DUE.due("seed again", x.seed(-77), Integer.MIN_VALUE);
        x.deal(1);
        CandleTurns same = new CandleTurns();
        same.seed(-77);
        same.deal(1);
        DUE.due("the same lot", Due.state(x).equals(Due.state(same)) ? 1 : 0, 1);
    }
}
