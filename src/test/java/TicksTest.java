/** Promises 13 to 21: ticks that go by, and those that are only thought. */
public final class TicksTest {
    static final int BAD = Due.BAD, NO = Due.NO, NONE = Due.NONE, NOTHING = Due.NOTHING;
    static final Due DUE = new Due();

    public static void main(String[] args) {
        promise13Run();
        promise14Spread();
        promise15Groups();
        promise16Soon();
        promise17Period();
        promise18Film();
        promise19Basin();
        promise20Quiet();
        promise21Learn();
        eightFlames();
        DUE.end();
    }

    /** Two flames of pace 7 at one place: phases as told. */
    static CandleTurns two(int phase, int other) {
        CandleTurns x = new CandleTurns();
        x.flame(0, 1010, 5);
        x.flame(0, 1010, 5);
        x.set(0, 1, phase);
        x.set(1, 1, other);
        return x;
    }

    static void promise13Run() {
        CandleTurns x = two(0, 40);
        for (int n : new int[] {0, 61, -1, Integer.MAX_VALUE}) {
            DUE.due("run " + n, x.run(n), BAD);
        }
        DUE.due("no tick", x.count(2), 0);
        DUE.due("run 1", x.run(1), 0);
        DUE.due("pushed on", x.told(0, 4), 0 + 7 + 10);
        DUE.due("held back, by phases as they were", x.told(1, 4), 40 + 7 - 10);
        DUE.due("run 60", x.run(60), x.told(0, 6) + x.told(1, 6));
        DUE.due("ticks", x.count(2), 61);
        eachKindTurns();
        negativeNextGoesRound();
        gasBurnsUp();
        windIsDrawn();
        CandleTurns none = new CandleTurns();
        DUE.due("run without flames", none.run(7), 0);
        DUE.due("its ticks", none.count(2), 7);
    }

    /** Pushes of 10 and of 4, on one of each kind, from phase 50 on, size 5 (pace as FLAME: 7). */
    static void eachKindTurns() {
        int[] pace = {7, 8, 3, 16, 0};
        int[] by10 = {10, 20, -10, 23, -10};
        int[] by4 = {4, 8, -4, 11, 0};
        int[] by5 = {5, 10, -5, 13, -5};
        int[] byLess4 = {-4, -8, 4, -5, 0};
        int[] byLess5 = {-5, -10, 5, -7, 5};
        for (int kind = 0; kind < 5; kind++) {
            DUE.due("10 on kind " + kind, oneOf(kind, 90), 50 + pace[kind] + by10[kind]);
            DUE.due("4 on kind " + kind, oneOf(kind, 66), 50 + pace[kind] + by4[kind]);
            DUE.due("5 on kind " + kind, oneOf(kind, 70), 50 + pace[kind] + by5[kind]);
            DUE.due("-4 on kind " + kind, oneOf(kind, 34), 50 + pace[kind] + byLess4[kind]);
            DUE.due("-5 on kind " + kind, oneOf(kind, 30), 50 + pace[kind] + byLess5[kind]);
        }
    }

    static int oneOf(int kind, int otherPhase) {
        CandleTurns x = new CandleTurns();
        x.flame(kind, 1010, 5);
        x.flame(0, 1010, 5);
        x.set(0, 1, 50);
        x.set(1, 1, otherPhase);
        x.run(1);
        return x.told(0, 4);
    }

    static void negativeNextGoesRound() {
        CandleTurns x = new CandleTurns();
        x.flame(4, 1010, 5);
        x.flame(0, 1010, 9);
        x.set(0, 1, 3);
        x.set(1, 1, 43);
        DUE.due("below 0 is no flash", x.run(1), 0);
        DUE.due("below 0 goes round", x.told(0, 4), 113);
        x = two(113, 113);
        DUE.due("120 flashes", x.run(1), 2);
        DUE.due("120 is 0", x.told(1, 4), 0);
        x = two(112, 112);
        DUE.due("119 does not", x.run(1), 0);
    }

    static void gasBurnsUp() {
        CandleTurns x = two(0, 40);
        x.set(0, 2, 7);
        x.run(1);
        DUE.due("gas", x.told(0, 5), 2);
        x.run(1);
        DUE.due("no gas below 0", x.told(0, 5), 0);
        int phase = x.told(0, 4);
        int other = x.told(1, 4);
        x.run(1);
        DUE.due("it stays as it is", x.told(0, 4), phase);
        DUE.due("nobody is pushed by it", x.told(1, 4), other + 7);
        DUE.due("gas of the other", x.told(1, 5), 999 - 15);
    }

    static void windIsDrawn() {
        CandleTurns x = new CandleTurns();
        x.flame(5, 0, 5);
        x.flame(0, 2929, 5);
        x.flame(5, 2900, 5);
        x.set(2, 2, 0);
        int z = 1 * 1103515245 + 12345;
        x.run(1);
        DUE.due("wind", x.told(0, 4), Math.floorMod(9 + (z >>> 8) % 11 - 5, 120));
        DUE.due("a draw for those in a draught that are lit alone", x.count(8), z);
        x.set(2, 2, 999);
        int first = x.told(0, 4);
        x.run(1);
        int z2 = z * 1103515245 + 12345;
        int z3 = z2 * 1103515245 + 12345;
        DUE.due("by numbers, the first", x.told(0, 4), Math.floorMod(first + 9 + (z2 >>> 8) % 11 - 5, 120));
        DUE.due("by numbers, the second", x.told(2, 4), Math.floorMod(9 + (z3 >>> 8) % 11 - 5, 120));
    }

    static void promise14Spread() {
        CandleTurns x = new CandleTurns();
        DUE.due("none", x.spread(), NONE);
        x.flame(0, 0, 1);
        DUE.due("one alone", x.spread(), 0);
        x.set(0, 1, 119);
        x.flame(0, 0, 1);
        DUE.due("119 and 0", x.spread(), 1);
        x.set(1, 1, 59);
        DUE.due("119 and 59", x.spread(), 60);
        x.flame(0, 0, 1);
        x.set(2, 1, 19);
        DUE.due("119, 59 and 19", x.spread(), 60);
        x.set(2, 1, 99);
        DUE.due("119, 59 and 99", x.spread(), 60);
        x.set(2, 2, 0);
        x.set(1, 1, 119);
        DUE.due("two of one phase, one that is out", x.spread(), 0);
        x.set(0, 2, 0);
        x.set(1, 2, 0);
        DUE.due("all are out", x.spread(), NONE);
        CandleTurns round = new CandleTurns();
        for (int i = 0; i < 8; i++) {
            round.flame(0, 0, 1);
            round.set(i, 1, 15 * i);
        }
        DUE.due("eight all round", round.spread(), 105);
    }

    static void promise15Groups() {
        CandleTurns x = new CandleTurns();
        DUE.due("groups without flames", x.groups(0), 0);
        x.flame(0, 0, 1);
        DUE.due("one alone", x.groups(119), 1);
        for (int i = 1; i < 5; i++) {
            x.flame(0, 0, 1);
        }
        int[] phases = {0, 10, 10, 50, 110};
        for (int i = 0; i < 5; i++) {
            x.set(i, 1, phases[i]);
        }
        int[] ws = {0, 9, 10, 39, 40, 59, 60, 119};
        int[] due = {4, 4, 2, 2, 1, 1, 1, 1};
        for (int i = 0; i < ws.length; i++) {
            DUE.due("steps 10, 40, 60, 10: groups for " + ws[i], x.groups(ws[i]), due[i]);
        }
        x.set(1, 1, 0);
        DUE.due("0 twice, 10, 50, 110", x.groups(9), 4);
        x.set(1, 1, 10);
        x.set(3, 2, 0);
        DUE.due("one is out", x.groups(10), 1);
        for (int w : new int[] {-1, 120, Integer.MAX_VALUE}) {
            DUE.due("groups for " + w, x.groups(w), BAD);
        }
        for (int i = 0; i < 5; i++) {
            x.set(i, 2, 0);
        }
        DUE.due("all are out", x.groups(0), 0);
    }

    static void promise16Soon() {
        CandleTurns x = two(0, 40);
        DUE.due("at once", x.soon(40), 0);
        // 0 and 40 become 17 and 37, then 29 and 39, then 38 and 44, then 46 and 50, then 54 and 56, and 2 apart they stay.
        int[] ws = {39, 20, 19, 10, 9, 6, 5, 4, 3, 2};
        int[] due = {1, 1, 2, 2, 3, 3, 4, 4, 5, 5};
        for (int i = 0; i < ws.length; i++) {
            DUE.due("soon for " + ws[i], x.soon(ws[i]), due[i]);
        }
        x.set(0, 2, 1);
        DUE.due("one goes out: the other is alone", x.soon(0), 1);
        x.set(1, 2, 1);
        DUE.due("both go out with the tick", x.soon(2), NONE);
        x.set(0, 2, 999);
        x.set(1, 2, 999);
        DUE.due("they go out in the 200th tick", x.soon(1), NONE);
        x.set(1, 0, 1);
        x.set(1, 1, 40);
        x.glass(0, 1, 1);
        x.turns(0, 4);
        x.turns(1, 4);
        x.set(0, 0, 5);
        DUE.due("the one is out behind 200 ticks: that still counts", x.soon(39), 200);
        x.set(0, 0, 4);
        DUE.due("249 ticks are too many", x.soon(39), NONE);
        x.set(0, 0, 1);
        x.set(0, 2, 201);
        DUE.due("201 are", x.soon(39), NONE);
        nothingChanges("soon", 0);
        DUE.due("soon 120", x.soon(120), BAD);
        DUE.due("soon -1", x.soon(-1), BAD);
        DUE.due("soon without flames", new CandleTurns().soon(119), NONE);
    }

    static void promise17Period() {
        CandleTurns x = new CandleTurns();
        DUE.due("without flames", x.period(), 1);
        x.flame(0, 0, 2);
        DUE.due("pace 10", x.period(), 12);
        x.set(0, 0, 1);
        DUE.due("pace 11", x.period(), 120);
        x.flame(0, 2929, 4);
        DUE.due("paces 11 and 8", x.period(), 120);
        x.set(0, 0, 4);
        DUE.due("paces 8 and 8", x.period(), 15);
        x.flame(0, 2900, 9);
        x.set(2, 2, 0);
        DUE.due("one that is out has its phase", x.period(), 15);
        x.set(2, 2, 5);
        DUE.due("one that goes out elsewhere", x.period(), NONE);
        x.set(2, 0, 2);
        x.set(2, 2, 999);
        DUE.due("paces 8 and 10", x.period(), 60);
        Due.text(x, "pace 1-n");
        DUE.due("paces 1 and 0", x.period(), 120);
        DUE.due("300 are the most", periodOf(300), 300);
        DUE.due("301 are too many", periodOf(301), NONE);
        nothingChanges("period", 1);
    }

    /** One in a draught goes away with the first tick and comes back with the last of so many. */
    static int periodOf(int ticks) {
        CandleTurns x = new CandleTurns();
        x.flame(5, 0, 1);
        Due.text(x, "pace 0");
        Due.text(x, "wind (t=0)*10-(t=" + (ticks - 1) + ")*10-2");
        return x.period();
    }

    static void promise18Film() {
        CandleTurns x = two(0, 40);
        DUE.due("film 1", x.film(0, 1), 17);
        DUE.due("film 2", x.film(0, 2), 29);
        DUE.due("film of the other", x.film(1, 1), -3);
        x.glass(0, 1, 1);
        DUE.due("8 ticks", x.film(0, 8), 56);
        DUE.due("9 ticks", x.film(0, 9), 63 - 120);
        DUE.due("60 ticks: 420", x.film(1, 60), -60);
        for (int k : new int[] {0, 61, -1, Integer.MIN_VALUE}) {
            DUE.due("film by " + k, x.film(0, k), BAD);
        }
        DUE.due("film of none", x.film(2, 1), BAD);
        DUE.due("film of -1", x.film(-1, 1), BAD);
        x.set(0, 2, 0);
        DUE.due("film of one that is out", x.film(0, 60), 0);
        nothingChanges("film", 2);
    }

    static void promise19Basin() {
        CandleTurns x = new CandleTurns();
        DUE.due("basin without flames", x.basin(10), NO);
        x.flame(0, 0, 5);
        DUE.due("basin of one", x.basin(10), NO);
        DUE.due("bad goes first", x.basin(120), BAD);
        DUE.due("basin -1", x.basin(-1), BAD);
        x.flame(0, 2929, 5);
        DUE.due("apart they stay as they begin: 6 alike", x.basin(19), 6);
        DUE.due("and 12 by 20 more", x.basin(20), 18);
        DUE.due("and 12 by 40", x.basin(59), 30);
        DUE.due("all", x.basin(60), 36);
        x.move(1, 0);
        DUE.due("near they come together, but for 60", x.basin(3), 30);
        DUE.due("near they stay 3 apart at the most", x.basin(0), 6);
        x.set(0, 2, 0);
        DUE.due("one is out", x.basin(60), NO);
        x.set(0, 2, 999);
        x.set(0, 2, 1);
        DUE.due("one alone at the end", x.basin(0), 36);
        x.set(1, 2, 1);
        DUE.due("none at the end", x.basin(119), 0);
        firstTwoThatAreLit();
        basinIsBehind30Ticks();
        nothingChanges("basin", 3);
    }

    static void firstTwoThatAreLit() {
        CandleTurns x = new CandleTurns();
        x.flame(4, 0, 1);
        x.flame(4, 2900, 1);
        x.flame(4, 2929, 1);
        x.set(0, 2, 0);
        x.set(0, 1, 60);
        DUE.due("the first is out", x.basin(0), 6);
        x.set(0, 2, 999);
        DUE.due("the third stays at 0", x.basin(0), 1);
        x.set(2, 1, 40);
        DUE.due("the third stays at 40", x.basin(0), 1);
    }

    /** One in a draught goes on by 10 in the 30th tick and in the 31st: alike is nobody behind the 30th alone. */
    static void basinIsBehind30Ticks() {
        CandleTurns x = new CandleTurns();
        x.flame(5, 0, 1);
        x.flame(4, 2929, 1);
        Due.text(x, "pace 0");
        Due.text(x, "wind ((t=29)+(t=30))*10-2");
        DUE.due("10 or more apart", x.basin(9), 0);
        DUE.due("10 apart", x.basin(10), 12);
    }

    static void promise20Quiet() {
        CandleTurns x = new CandleTurns();
        x.flame(0, 0, 5);
        x.flame(4, 500, 5);
        x.set(1, 1, 50);
        DUE.due("quiet of none", x.quiet(2, 0), BAD);
        DUE.due("quiet -1", x.quiet(-1, 0), BAD);
        DUE.due("what 2", x.quiet(0, 2), BAD);
        DUE.due("what -1", x.quiet(0, -1), BAD);
        Due.text(x, "pace 0");
        Due.text(x, "join (d=5)*2");
        // Only 5 away a flame is pushed, by 2 a tick: 20 in all, and the still one is not pushed by so little.
        DUE.due("pushed: 30 apart", x.quiet(0, 0), 30);
        DUE.due("first as it is", x.quiet(0, 1), 0);
        x.move(0, 200);
        DUE.due("the first that is 5 away", x.quiet(0, 1), 0);
        x.move(0, 202);
        DUE.due("by x, then y", x.quiet(0, 1), 0);
        x.move(0, 303);
        DUE.due("x 0 first", x.quiet(0, 1), 0);
        x.move(0, 304);
        DUE.due("y from 1 on: 1, 1", x.quiet(0, 1), 101);
        x.move(0, 2929);
        x.move(1, 2926);
        DUE.due("at the edge", x.quiet(0, 1), 2628);
        DUE.due("at the edge, the spread", x.quiet(0, 0), 30);
        x.move(0, 1010);
        x.move(1, 1818);
        DUE.due("beyond 3 more of each", x.quiet(0, 0), 50);
        x.move(1, 1516);
        DUE.due("3 more of both alone", x.quiet(0, 1), 1313);
        x.move(1, 1810);
        DUE.due("3 more of x alone", x.quiet(0, 1), 1310);
        x.move(1, 1018);
        DUE.due("3 more of y alone", x.quiet(0, 1), 1013);
        x.move(0, 2929);
        x.move(1, 0);
        DUE.due("beyond all reach", x.quiet(0, 0), 50);
        DUE.due("of several the first", x.quiet(0, 1), 2626);
        x.set(0, 2, 0);
        DUE.due("one alone", x.quiet(0, 0), 0);
        x.set(1, 2, 50);
        DUE.due("none behind 10 ticks", x.quiet(0, 0), NONE);
        DUE.due("then the first place", x.quiet(0, 1), 2626);
        x.set(1, 2, 51);
        DUE.due("one behind 10 ticks", x.quiet(0, 0), 0);
        nothingChanges("quiet", 4);
    }

    static void promise21Learn() {
        CandleTurns x = new CandleTurns();
        DUE.due("learn without flames", x.learn(0, 0), BAD);
        x.flame(0, 0, 5);
        x.flame(4, 12, 5);
        x.set(1, 1, 40);
        DUE.due("a sheet that is missing", x.learn(0, 0), NOTHING);
        DUE.due("no sheet", x.learn(4, 0), BAD);
        DUE.due("sheet -1", x.learn(-1, 0), BAD);
        DUE.due("no flame", x.learn(0, 2), BAD);
        x.sheet(0, 0, 0);
        DUE.due("a row without places", x.learn(0, 0), 0);
        x.sheet(0, 1, 3);
        x.mark(0, 0, 17);
        x.mark(0, 1, Due.NONE);
        x.mark(0, 2, Due.NONE);
        DUE.due("pushed by 10 at once: within 12", x.learn(0, 0), 12);
        x.mark(0, 0, 7);
        DUE.due("not pushed: from 0 on", x.learn(0, 0), 0);
        x.mark(0, 0, 6);
        DUE.due("never so: the least", x.learn(0, 0), 0);
        x.mark(0, 0, 17);
        x.move(1, 1514);
        DUE.due("29 is tried", x.learn(0, 0), 29);
        x.move(1, 1515);
        DUE.due("30 is not", x.learn(0, 0), 0);
        x.move(1, 2929);
        DUE.due("58 is more than is tried", x.learn(0, 0), 0);
        x.reach(0, 59);
        DUE.due("tried is what is tried", x.learn(0, 0), 0);
        mostPlacesCount();
        nothingChanges("learn", 5);
    }

    /** One is pushed within 3 and held back within 9: most places tell which. */
    static void mostPlacesCount() {
        CandleTurns x = new CandleTurns();
        x.flame(0, 0, 5);
        x.flame(4, 3, 5);
        x.set(1, 1, 40);
        x.glass(0, 1, 0);
        x.sheet(1, 0, 24);
        x.reach(0, 3);
        for (int k = 0; k < 24; k++) {
            x.keep();
            x.run(k + 1);
            int phase = x.told(0, 4);
            x.back();
            x.mark(1, k, phase);
        }
        x.reach(0, 50);
        DUE.due("as it was seen", x.learn(1, 0), 3);
        for (int k = 0; k < 10; k++) {
            x.mark(1, k, 500);
        }
        DUE.due("most are as it was seen", x.learn(1, 0), 3);
        x.sheet(2, 0, 2);
        x.mark(2, 0, 17);
        x.mark(2, 1, 0);
        DUE.due("place 0 is one tick on", x.learn(2, 0), 3);
        x.mark(2, 0, 0);
        x.mark(2, 1, 17);
        DUE.due("place 1 is two", x.learn(2, 0), 0);
    }

    /** As many as there may be, all in the air of one another, alike in all things: so they stay. */
    static void eightFlames() {
        CandleTurns x = new CandleTurns();
        for (int i = 0; i < 8; i++) {
            x.flame(0, 1010, 2);
        }
        x.sheet(0, 0, 1);
        x.mark(0, 0, 10);
        DUE.due("all push", x.told(7, 8), 0);
        DUE.due("all flash", x.run(12), 8);
        DUE.due("all are alike", x.spread(), 0);
        DUE.due("in one group", x.groups(0), 1);
        DUE.due("at once", x.soon(0), 0);
        DUE.due("period", x.period(), 12);
        DUE.due("film", x.film(7, 5), 50);
        DUE.due("learn", x.learn(0, 7), 0);
        DUE.due("quiet", x.quiet(7, 0), 0);
        DUE.due("all are lit", x.count(1), 8);
        Due.text(x, "join 3");
        DUE.due("pushed by seven", x.told(7, 8), 21);
        x.run(1);
        DUE.due("pushed on by seven", x.told(7, 4), 10 + 21);
    }

    static void nothingChanges(String name, int which) {
        CandleTurns x = new CandleTurns();
        x.seed(5);
        x.deal(3);
        x.flame(5, 1010, 3);
        x.flame(5, 1212, 3);
        x.sheet(0, 0, 5);
        x.tell(9);
        String was = Due.state(x);
        int first = thought(x, which);
        DUE.holds(name + " changes nothing", was.equals(Due.state(x)));
        DUE.due(name + " again", thought(x, which), first);
    }

    static int thought(CandleTurns x, int which) {
        switch (which) {
            case 0: return x.soon(30);
            case 1: return x.period();
            case 2: return x.film(3, 33);
            case 3: return x.basin(70);
            case 4: return x.quiet(3, 1);
            default: return x.learn(0, 3);
        }
    }
}
