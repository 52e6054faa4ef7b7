/** Promises 36 to 40: numbers that wait, images, counts. */
public final class ImagesTest {
    static final int BAD = Due.BAD, NO = Due.NO, FULL = Due.FULL, NONE = Due.NONE;
    static final Due DUE = new Due();

    public static void main(String[] args) {
        promise36Tell();
        promise37Check();
        checkGoesByTheImage();
        promise38Keep();
        promise39Back();
        promise40Count();
        DUE.end();
    }

    static void tellAll(CandleTurns x, int... numbers) {
        for (int v : numbers) {
            x.tell(v);
        }
    }

    static void promise36Tell() {
        CandleTurns x = new CandleTurns();
        for (int i = 1; i <= 60; i++) {
            DUE.due("tell " + i, x.tell(Integer.MIN_VALUE + i), i);
        }
        DUE.due("a 61st", x.tell(0), FULL);
        DUE.due("60 wait", x.count(6), 60);
    }

    /** 0 and 40 become 17 and 37, then 29 and 39, then 38 and 44. */
    static CandleTurns two() {
        CandleTurns x = new CandleTurns();
        x.flame(0, 1010, 5);
        x.flame(0, 1010, 5);
        x.set(1, 1, 40);
        return x;
    }

    static void promise37Check() {
        CandleTurns x = two();
        tellAll(x, 20, 0);
        DUE.due("no image", x.check(1), NO);
        DUE.due("none wait behind that", x.count(6), 0);
        tellAll(x, 20, 0);
        DUE.due("bad goes first", x.check(31), BAD);
        DUE.due("none wait behind that either", x.count(6), 0);
        x.keep();
        for (int n : new int[] {0, -1, 31, Integer.MAX_VALUE}) {
            tellAll(x, 20);
            DUE.due("check " + n, x.check(n), BAD);
            DUE.due("none wait", x.count(6), 0);
        }
        int[][] told = {{20, 0, 10, 0, 6, 0}, {}, {21}, {20}, {20, 1}, {20, 0}, {20, 0, 10}, {20, 0, 10, 0, 5, 0}, {20, 0, 10, 0, 6, 1}, {20, 0, 10, 0, 6}, {20, 0, 10, 0, 6, 0, 0},
            {20, 0, 10, 0, 6, 0, 4, 0}, {20, 0, 10, 0, 7, 0, 0}};
        int[] due = {0, 1, 1, 2, 2, 3, 4, 5, 6, 6, 7, 7, 5};
        for (int i = 0; i < told.length; i++) {
            tellAll(x, told[i]);
            DUE.due("told " + i, x.check(3), due[i]);
            DUE.due("none wait behind " + i, x.count(6), 0);
        }
        DUE.due("no tick went by", x.count(2), 0);
    }

    static void checkGoesByTheImage() {
        CandleTurns x = two();
        x.set(0, 1, 110);
        x.set(1, 1, 118);
        x.keep();
        x.run(9);
        Due.text(x, "join 20");
        x.move(1, 2929);
        x.glass(0, 1, 1);
        x.seed(99);
        x.flame(5, 0, 1);
        String was = Due.state(x);
        tellAll(x, 4, 1, 2, 1);
        DUE.due("by the image, laws too", x.check(2), 0);
        DUE.holds("nothing changes but what waits", was.equals(Due.state(x)));
        CandleTurns out = two();
        out.set(0, 2, 5);
        out.set(1, 2, 10);
        out.keep();
        tellAll(out, 0, 0, NONE, 0, NONE, 0);
        DUE.due("none is lit at last", out.check(3), 0);
        CandleTurns most = new CandleTurns();
        most.flame(0, 0, 2);
        most.keep();
        for (int i = 1; i <= 30; i++) {
            tellAll(most, 0, i % 12 == 0 ? 1 : 0);
        }
        DUE.due("30 ticks", most.check(30), 0);
        for (int i = 1; i <= 30; i++) {
            tellAll(most, 0, i % 12 == 0 || i == 30 ? 1 : 0);
        }
        DUE.due("30 ticks, the last not", most.check(30), 60);
        CandleTurns wind = new CandleTurns();
        wind.flame(5, 0, 2);
        wind.keep();
        wind.seed(5);
        wind.tell(7);
        wind.check(1);
        DUE.due("z is not drawn from", wind.count(8), 5);
    }

    static void promise38Keep() {
        CandleTurns x = new CandleTurns();
        DUE.due("none", x.keep(), 0);
        x.flame(0, 0, 1);
        x.flame(0, 0, 1);
        DUE.due("two", x.keep(), 2);
        String was = Due.state(x);
        x.keep();
        DUE.holds("keeping changes nothing", was.equals(Due.state(x)));
        x.flame(0, 0, 1);
        DUE.due("the last image counts", x.back(), 2);
    }

    static void promise39Back() {
        CandleTurns x = two();
        DUE.due("no image", x.back(), NO);
        x.set(0, 1, 119);
        x.run(3);
        x.glass(0, 1, 1);
        x.reach(0, 7);
        x.reach(1, 17);
        x.seed(55);
        Due.text(x, "pace 3");
        Due.text(x, "join 2");
        x.keep();
        String was = Due.state(x);
        for (int again = 0; again < 3; again++) {
            x.run(60);
            x.glass(0, 1, 0);
            x.reach(0, 1);
            x.reach(1, 1);
            x.turns(0, 5);
            x.move(1, 2929);
            x.set(0, 2, 0);
            x.set(1, 0, 9);
            x.deal(3);
            x.glass(0, 3, 1);
            Due.text(x, "pace 4");
            Due.text(x, "wind 4");
            DUE.due("back", x.back(), 2);
            DUE.holds("all is as it was", was.equals(Due.state(x)));
            DUE.due("glass is as it was", x.push(0, 1), 0);
            DUE.due("no text 2", x.textTold(2, 0), BAD);
            DUE.due("the law of pace", x.told(0, 7), 3);
            DUE.due("the law of wind", x.why(2), NONE);
        }
        x.deal(3);
        x.set(2, 1, 119);
        x.run(60);
        x.back();
        x.flame(0, 0, 1);
        DUE.due("a new flame has phase 0", x.told(2, 4), 0);
        DUE.due("a new flame has gas", x.told(2, 5), 999);
        DUE.due("a new flame did not flash", x.told(2, 6), 0);
        x.deal(3);
        DUE.due("a new flame has no glass", x.glass(0, 3, 0), 0);
        DUE.due("texts go on from there", Due.text(x, "wind 5"), 2);
        whatImagesDoNotKeep();
    }

    static void whatImagesDoNotKeep() {
        CandleTurns x = two();
        x.sheet(0, 0, 2);
        x.mark(0, 0, 3);
        x.keep();
        x.mark(0, 0, 4);
        x.sheet(1, 0, 2);
        x.lay(0, 3, 8);
        x.tell(1);
        x.feed(1, 2, 3);
        x.back();
        x.lay(1, 2, 0);
        DUE.due("sheets stay", x.item(1, 0), 4);
        DUE.due("other sheets stay", x.reads(1), 1);
        DUE.due("slots stay", x.rest(0, 10), 8);
        DUE.due("what waits stays", x.count(6), 1);
        DUE.due("the tape stays", x.count(7), 12);
    }

    static void promise40Count() {
        CandleTurns x = two();
        x.flame(5, 0, 1);
        x.set(1, 2, 0);
        x.reach(0, 12);
        x.reach(1, 13);
        x.run(2);
        Due.text(x, "wind 0");
        x.tell(1);
        x.tell(1);
        x.tell(1);
        x.feed(0, 0, 0);
        x.trim(5);
        x.seed(-9);
        int[] due = {3, 2, 2, 12, 13, 1, 3, 5, -9};
        for (int what = 0; what < due.length; what++) {
            DUE.due("count " + what, x.count(what), due[what]);
        }
        for (int what : new int[] {-1, 9, Integer.MIN_VALUE, Integer.MAX_VALUE}) {
            DUE.due("count " + what, x.count(what), BAD);
        }
    }
}
