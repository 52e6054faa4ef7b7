/** Promises 27 to 35: sheets and slots. */
public final class SheetsTest {
    static final int BAD = Due.BAD, NO = Due.NO, NONE = Due.NONE, NOTHING = Due.NOTHING, KIND = Due.KIND, INDEX = Due.INDEX, SIZE = Due.SIZE;
    static final int MIN = Integer.MIN_VALUE, MAX = Integer.MAX_VALUE;
    static final Due DUE = new Due();

    public static void main(String[] args) {
        promise27Sheet();
        promise28Mark();
        promise29Pour();
        promise30Reads();
        promise31Copy();
        copiesOverItself();
        promise32Lay();
        promise33Ask();
        promise34Item();
        promise35Rest();
        DUE.end();
    }

    /** A place of a sheet, by the last slot. */
    static int at(CandleTurns x, int sheet, int place) {
        x.lay(4, 2, sheet);
        return x.item(4, place);
    }

    static void promise27Sheet() {
        CandleTurns x = new CandleTurns();
        for (int sheet : new int[] {-1, 4, MAX}) {
            DUE.due("sheet " + sheet, x.sheet(sheet, 0, 1), BAD);
            DUE.due("sheet " + sheet + " missing", x.sheet(sheet, -1, 1), BAD);
        }
        DUE.due("sort 2", x.sheet(0, 2, 1), BAD);
        DUE.due("sort -2", x.sheet(0, -2, 1), BAD);
        DUE.due("25 places", x.sheet(0, 0, 25), BAD);
        DUE.due("-1 places", x.sheet(0, 1, -1), SIZE);
        DUE.due("least places", x.sheet(0, 1, MIN), SIZE);
        DUE.due("sort goes first", x.sheet(0, 2, -1), BAD);
        DUE.due("it is missing yet", x.reads(0), NOTHING);
        DUE.due("24 places", x.sheet(0, 0, 24), 24);
        DUE.due("all 0", at(x, 0, 0) | at(x, 0, 23), 0);
        DUE.due("no 25th", at(x, 0, 24), INDEX);
        x.mark(0, 3, 7);
        x.mark(0, 0, 7);
        DUE.due("refused", x.sheet(0, 0, -1), SIZE);
        DUE.due("it stays", at(x, 0, 3), 7);
        DUE.due("anew", x.sheet(0, 0, 5), 5);
        DUE.due("all 0 anew", at(x, 0, 0) | at(x, 0, 3), 0);
        DUE.due("0 places", x.sheet(1, 1, 0), 0);
        DUE.due("it is there", x.reads(1), NONE);
        DUE.due("missing, of any n", x.sheet(0, -1, -9), 0);
        DUE.due("missing, of a great n", x.sheet(1, -1, MAX), 0);
        DUE.due("the one is missing", x.reads(0), NOTHING);
        DUE.due("the other is missing", x.reads(1), NOTHING);
    }

    static void promise28Mark() {
        CandleTurns x = new CandleTurns();
        DUE.due("sheet 4", x.mark(4, 0, 0), BAD);
        DUE.due("sheet -1", x.mark(-1, 0, 0), BAD);
        DUE.due("missing", x.mark(0, 99, NONE), NOTHING);
        x.sheet(0, 0, 3);
        x.sheet(1, 1, 3);
        for (int place : new int[] {-1, 3, MIN, MAX}) {
            DUE.due("shorts at " + place, x.mark(0, place, NONE), INDEX);
            DUE.due("floats at " + place, x.mark(1, place, 100000), INDEX);
        }
        DUE.due("none in shorts", x.mark(0, 0, NONE), KIND);
        int[] shorts = {32767, 32768, 65535, 65536, -1, -32769, MIN, MAX, 70000, BAD};
        for (int v : shorts) {
            DUE.due("short " + v, x.mark(0, 1, v), 1);
            DUE.due("is " + v, at(x, 0, 1), (short) v);
        }
        for (int v : new int[] {99999, -99999, 0, 32768}) {
            DUE.due("float " + v, x.mark(1, 2, v), 1);
            DUE.due("is " + v, at(x, 1, 2), v);
        }
        for (int v : new int[] {100000, -100000, MIN, MAX, BAD}) {
            DUE.due("float " + v, x.mark(1, 2, v), BAD);
        }
        DUE.due("it stays", at(x, 1, 2), 32768);
        DUE.due("no number", x.mark(1, 2, NONE), 1);
        DUE.due("is no number", at(x, 1, 2), KIND);
        DUE.due("a number again", x.mark(1, 2, 5), 1);
        DUE.due("is 5", at(x, 1, 2), 5);
        DUE.due("others are as they were", at(x, 0, 0) + at(x, 0, 2) + at(x, 1, 0) + at(x, 1, 1), 0);
    }

    static CandleTurns three(int... phases) {
        CandleTurns x = new CandleTurns();
        for (int i = 0; i < phases.length; i++) {
            x.flame(0, 0, 1);
            x.set(i, 1, phases[i]);
        }
        return x;
    }

    static void row(CandleTurns x, int sheet, int sort, int... places) {
        x.sheet(sheet, sort, places.length);
        for (int i = 0; i < places.length; i++) {
            x.mark(sheet, i, places[i]);
        }
    }

    static void promise29Pour() {
        CandleTurns x = three(10, 20, 30, 40);
        DUE.due("sheet 4", x.pour(4), BAD);
        DUE.due("sheet -1", x.pour(-1), BAD);
        DUE.due("missing", x.pour(0), NOTHING);
        row(x, 0, 1, 119, NONE, 120, -1, 5, 6);
        DUE.due("119 alone", x.pour(0), 1);
        int[] due = {119, 20, 30, 40};
        for (int i = 0; i < 4; i++) {
            DUE.due("phase " + i, x.told(i, 4), due[i]);
        }
        DUE.due("again nothing is otherwise", x.pour(0), 0);
        row(x, 1, 0, 0, 20);
        DUE.due("shorts: 0, and 20 that was", x.pour(1), 1);
        DUE.due("phase 0", x.told(0, 4), 0);
        DUE.due("a row that is shorter", x.told(2, 4), 30);
        x.set(2, 2, 0);
        row(x, 1, 0, 0, 20, 77);
        DUE.due("one that is out", x.pour(1), 1);
        DUE.due("its phase", x.told(2, 4), 77);
        x.sheet(2, 0, 0);
        DUE.due("no places", x.pour(2), 0);
    }

    static void promise30Reads() {
        CandleTurns x = three(10, 20, 30);
        DUE.due("sheet 4", x.reads(4), BAD);
        DUE.due("sheet -1", x.reads(-1), BAD);
        DUE.due("missing", x.reads(0), NOTHING);
        row(x, 0, 1, 10, NONE, 30);
        DUE.due("as it is", x.reads(0), NONE);
        x.set(2, 1, 31);
        DUE.due("not at 2", x.reads(0), 2);
        x.set(0, 1, 31);
        DUE.due("not at 0", x.reads(0), 0);
        row(x, 1, 1, 31, 20, 31, NONE, NONE);
        DUE.due("no number where no flame is", x.reads(1), NONE);
        x.mark(1, 4, 0);
        DUE.due("a number where no flame is", x.reads(1), 4);
        row(x, 2, 0, 31, 20);
        DUE.due("a row that is shorter", x.reads(2), NONE);
        x.sheet(2, 0, 0);
        DUE.due("no places", x.reads(2), NONE);
    }

    static void promise31Copy() {
        CandleTurns x = new CandleTurns();
        row(x, 0, 0, 1, 2, 3, 4);
        row(x, 1, 0, 5, 6, 7, 8, 9);
        row(x, 2, 1, 1, NONE, 3);
        for (int sheet : new int[] {-1, 4, MAX}) {
            DUE.due("from " + sheet, x.copy(sheet, 0, 0, 0, 0), BAD);
            DUE.due("to " + sheet, x.copy(3, 0, sheet, 0, 0), BAD);
        }
        DUE.due("from a missing one", x.copy(3, 0, 0, 0, 99), NOTHING);
        DUE.due("to a missing one", x.copy(2, 0, 3, 0, 99), NOTHING);
        DUE.due("sorts", x.copy(0, 0, 2, 0, 99), KIND);
        DUE.due("sorts, none", x.copy(2, 0, 1, 0, 0), KIND);
        int[][] index = {{-1, 0, 1}, {0, -1, 1}, {0, 0, -1}, {4, 0, 1}, {0, 5, 1}, {0, 0, 5}, {3, 0, 2}, {0, 4, 2}, {1, 1, MAX}, {MAX, 0, 1}, {0, MAX, MAX}, {5, 0, 0},
            {0, 6, 0}, {MIN, 0, MIN}, {2, 2, MIN}};
        for (int[] i : index) {
            DUE.due("index " + i[0] + " " + i[1] + " " + i[2], x.copy(0, i[0], 1, i[1], i[2]), INDEX);
        }
        DUE.due("nothing came of that", at(x, 1, 0) * 10000 + at(x, 1, 1) * 1000 + at(x, 1, 2) * 100 + at(x, 1, 3) * 10 + at(x, 1, 4), 56789);
        DUE.due("none", x.copy(0, 4, 1, 5, 0), 0);
        DUE.due("three", x.copy(0, 1, 1, 2, 3), 3);
        DUE.due("they came", at(x, 1, 0) * 10000 + at(x, 1, 1) * 1000 + at(x, 1, 2) * 100 + at(x, 1, 3) * 10 + at(x, 1, 4), 56234);
        DUE.due("the other is as it was", at(x, 0, 1), 2);
        x.sheet(3, 1, 2);
        DUE.due("floats", x.copy(2, 1, 3, 0, 2), 2);
        DUE.due("no number came", at(x, 3, 0), KIND);
        DUE.due("a number came", at(x, 3, 1), 3);
    }

    static void copiesOverItself() {
        CandleTurns x = new CandleTurns();
        row(x, 0, 0, 1, 2, 3, 4, 5);
        DUE.due("up", x.copy(0, 0, 0, 1, 4), 4);
        int[] up = {1, 1, 2, 3, 4};
        for (int i = 0; i < 5; i++) {
            DUE.due("up at " + i, at(x, 0, i), up[i]);
        }
        DUE.due("down", x.copy(0, 2, 0, 0, 3), 3);
        int[] down = {2, 3, 4, 3, 4};
        for (int i = 0; i < 5; i++) {
            DUE.due("down at " + i, at(x, 0, i), down[i]);
        }
    }

    static void promise32Lay() {
        CandleTurns x = three(10);
        for (int slot : new int[] {-1, 5, MAX}) {
            DUE.due("slot " + slot, x.lay(slot, 0, 0), BAD);
        }
        DUE.due("thing -1", x.lay(0, -1, 0), BAD);
        DUE.due("thing 4", x.lay(0, 4, 0), BAD);
        DUE.due("flame 1", x.lay(0, 1, 1), BAD);
        DUE.due("flame -1", x.lay(0, 1, -1), BAD);
        DUE.due("sheet 4", x.lay(0, 2, 4), BAD);
        DUE.due("sheet -1", x.lay(0, 2, -1), BAD);
        DUE.due("sheet that is missing", x.lay(0, 2, 3), NOTHING);
        DUE.due("slot goes first", x.lay(5, 2, 3), BAD);
        DUE.due("it holds nothing yet", x.lay(0, 3, MIN), 0);
        DUE.due("a number", x.lay(0, 1, 0), 3);
        x.sheet(3, 0, 2);
        DUE.due("a flame", x.lay(0, 2, 3), 1);
        DUE.due("refused", x.lay(0, 1, 7), BAD);
        DUE.due("a sheet", x.lay(0, 0, MAX), 2);
        DUE.due("nothing", x.lay(0, 0, 0), 0);
        DUE.due("the last slot", x.lay(4, 3, 0), 0);
        DUE.due("the last slot holds", x.lay(4, 0, 0), 3);
        slotsAreAsThen();
    }

    static void slotsAreAsThen() {
        CandleTurns x = three(10);
        row(x, 0, 0, 4, 5);
        x.lay(0, 1, 0);
        x.lay(1, 2, 0);
        x.lay(2, 2, 0);
        x.set(0, 0, 9);
        x.turns(0, 5);
        x.mark(0, 1, 6);
        DUE.due("the flame as it was then", x.ask(0, 0), 1);
        DUE.due("its kind as it was then", x.ask(0, 5), KIND);
        DUE.due("the sheet as it was then", x.item(1, 1), 5);
        x.sheet(0, -1, 0);
        DUE.due("for good", x.item(1, 1), 5);
        row(x, 0, 1, 8);
        x.lay(1, 2, 0);
        DUE.due("a row of its own", x.item(2, 1), 5);
        DUE.due("the new one", x.item(1, 1), INDEX);
        x.keep();
        x.lay(0, 3, 77);
        x.back();
        DUE.due("images do not keep slots", x.rest(0, 100), 77);
    }

    static void promise33Ask() {
        int[] worths = {6, 10, 3, 20, 1, 36};
        String[] under = {"0", "01", "02", "013", "024", "05"};
        for (int kind = 0; kind < 6; kind++) {
            CandleTurns x = new CandleTurns();
            x.flame(kind, 0, 6);
            x.lay(3, 1, 0);
            for (int as = 0; as < 6; as++) {
                DUE.due("kind " + kind + " taken for " + as, x.ask(3, as), under[kind].indexOf('0' + as) >= 0 ? worths[kind] : KIND);
            }
        }
        CandleTurns x = new CandleTurns();
        DUE.due("nothing", x.ask(0, 0), NOTHING);
        DUE.due("slot 5", x.ask(5, 0), BAD);
        DUE.due("slot -1", x.ask(-1, 0), BAD);
        DUE.due("kind goes first", x.ask(0, 6), BAD);
        DUE.due("kind -1", x.ask(0, -1), BAD);
        x.lay(0, 3, 5);
        DUE.due("a number", x.ask(0, 0), KIND);
        x.sheet(0, 0, 1);
        x.lay(0, 2, 0);
        DUE.due("a sheet", x.ask(0, 0), KIND);
    }

    static void promise34Item() {
        CandleTurns x = three(10);
        DUE.due("slot 5", x.item(5, 0), BAD);
        DUE.due("slot -1", x.item(-1, 0), BAD);
        DUE.due("nothing", x.item(0, -1), NOTHING);
        x.lay(0, 1, 0);
        DUE.due("a flame", x.item(0, -1), KIND);
        x.lay(0, 3, 0);
        DUE.due("a number", x.item(0, 0), KIND);
        row(x, 0, 1, -99999, NONE, 7);
        x.lay(0, 2, 0);
        DUE.due("a place", x.item(0, 0), -99999);
        DUE.due("no number", x.item(0, 1), KIND);
        DUE.due("another place", x.item(0, 2), 7);
        for (int place : new int[] {-1, 3, MIN, MAX}) {
            DUE.due("place " + place, x.item(0, place), INDEX);
        }
    }

    static void promise35Rest() {
        CandleTurns x = three(10);
        DUE.due("slot 5", x.rest(5, 0), BAD);
        DUE.due("slot -1", x.rest(-1, 0), BAD);
        DUE.due("nothing", x.rest(0, 0), NOTHING);
        x.lay(0, 1, 0);
        DUE.due("a flame", x.rest(0, 0), KIND);
        x.sheet(0, 0, 1);
        x.lay(0, 2, 0);
        DUE.due("a sheet", x.rest(0, 1), KIND);
        int[] numbers = {17, -17, 17, -17, MIN, MIN, 0, 5};
        int[] by = {5, 5, -5, -5, -1, MAX, 3, 0};
        int[] due = {2, -2, 2, -2, 0, -1, 0, NO};
        for (int i = 0; i < numbers.length; i++) {
            x.lay(0, 3, numbers[i]);
            DUE.due(numbers[i] + " by " + by[i], x.rest(0, by[i]), due[i]);
        }
    }
}
