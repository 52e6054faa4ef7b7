import java.nio.charset.StandardCharsets;

/** Promises 22 to 26: the tape, texts, and what laws give. */
public final class TextsTest {
    static final int BAD = Due.BAD, FULL = Due.FULL, NONE = Due.NONE;
    static final Due DUE = new Due();

    public static void main(String[] args) {
        promise22Feed();
        promise23Trim();
        promise24Text();
        whereFaultsAre();
        howDeepTextsGo();
        whatPaceGives();
        whatJoinGives();
        whatWindGives();
        promise25TextTold();
        promise26Why();
        DUE.end();
    }

    static void promise22Feed() {
        CandleTurns x = new CandleTurns();
        for (int i = 1; i <= 8; i++) {
            DUE.due("feed " + i, x.feed(0x70616365, 0x20202020, 0x20202037), 12 * i);
        }
        DUE.due("feed a ninth", x.feed(0, 0, 0), FULL);
        DUE.due("bytes", x.count(7), 96);
        x.trim(85);
        DUE.due("97 are too many", x.feed(0, 0, 0), FULL);
        DUE.due("bytes stay", x.count(7), 85);
        x.trim(84);
        DUE.due("96 are not", x.feed(0, 0, 0), 96);
        x.trim(12);
        DUE.due("the highest first", x.text(), 0);
        x.flame(0, 0, 1);
        DUE.due("its law", x.told(0, 7), 7);
    }

    static void promise23Trim() {
        CandleTurns x = new CandleTurns();
        DUE.due("trim nothing", x.trim(0), 0);
        DUE.due("trim 1", x.trim(1), BAD);
        x.feed(1, 2, 3);
        DUE.due("trim 13", x.trim(13), BAD);
        DUE.due("trim -1", x.trim(-1), BAD);
        DUE.due("bytes stay", x.count(7), 12);
        DUE.due("trim 12", x.trim(12), 12);
        DUE.due("trim 5", x.trim(5), 5);
        DUE.due("bytes", x.count(7), 5);
        DUE.due("trim 6", x.trim(6), BAD);
        DUE.due("trim 0", x.trim(0), 0);
        DUE.due("no bytes", x.count(7), 0);
    }

    static void promise24Text() {
        CandleTurns x = new CandleTurns();
        DUE.due("an empty tape", x.text(), -100);
        x.feed(0x20202020, 0x20202020, 0x20202020);
        x.trim(0);
        DUE.due("a tape that is empty again", x.text(), -100);
        Due.put(x, "pace 7 x".getBytes(StandardCharsets.ISO_8859_1));
        DUE.due("a fault", x.text(), -107);
        DUE.due("a fault uses the tape up", x.count(7), 0);
        DUE.due("no text came", x.count(5), 0);
        for (int i = 0; i < 14; i++) {
            DUE.due("text " + i, Due.text(x, new String[] {"pace ", "join ", "wind "}[i % 3] + i), i);
            DUE.due("a text uses the tape up", x.count(7), 0);
        }
        DUE.due("a fifteenth", Due.text(x, "join 0"), FULL);
        DUE.due("it uses the tape up", x.count(7), 0);
        DUE.due("a fault goes first", Due.text(x, "join 0)"), -106);
        DUE.due("texts", x.count(5), 14);
        DUE.due("the fifteenth does not count", x.why(1), 13);
        x.flame(0, 0, 1);
        x.flame(0, 0, 1);
        DUE.due("what counts is as it was", x.push(0, 1), 13);
        CandleTurns again = new CandleTurns();
        String longest = "pace 1" + "+1".repeat(45);
        for (int i = 0; i < 3; i++) {
            DUE.due("a long fault", Due.text(again, longest.substring(0, 95)), -195);
        }
        DUE.due("96 bytes", Due.text(again, longest), 0);
        DUE.due("numbers of the last text alone", again.textTold(0, 1), 46);
        again.flame(0, 0, 1);
        DUE.due("what it gives is held", again.told(0, 7), 40);
        DUE.due("5 less, 40 more", Due.text(again, "pace 1" + "-1".repeat(5) + "+1".repeat(40)), 1);
        DUE.due("what that gives", again.told(0, 7), 36);
    }

    static void fault(String text, int place) {
        DUE.due("text '" + text + "'", Due.text(new CandleTurns(), text), place < 0 ? 0 : -100 - place);
    }

    static void whereFaultsAre() {
        String[] good = {"pace 1", " pace  1 ", "pace(1)", "pace!1", "pace 0000", "pace 9999", "pace s+n*2", "join d-p/s", "wind t|n&1", "wind !t<!n",
            "pace 1<2&3=4|5>6", "pace (1<2)<3", "pace 1-2-3", "pace((s))", "pace !(1)", "pace ! ! 1"};
        for (String s : good) {
            fault(s, -1);
        }
        String[] bad = {"", "   ", "pac", "  pac 1", "pacee 1", "paces", "Pace 1", "abcd 1", "1", "pace", "pace ", "pace  ", "pace1", "pace 1 2", "pace 1s", "pace s1",
            "pace s n", "pace d", "join n", "join t", "wind s", "wind p", "pace ss", "pace 12345", "pace 00001", "pace 1+", "pace 1+ ", "pace +1", "pace 1++1",
            "pace -1", "pace 1<2<3", "pace 1=2>3", "pace 1<2+3=4", "pace (1", "pace (1 ", "pace 1)", "pace ()", "pace (1))", "pace 1!", "pace 1 !1", "pace 1(2)",
            "pace !", "pace !)", "pace 1 & ", "pace |1", "pace 1\t", "pace\t1", "pace 1\u00e9", "\u0000pace 1", "pace 1.5", "pace 1==2", "pace 1<=2", "pace pace", "pace (1<2<3)",
            "pace 1 12345", "pace 12345s", "pace 1+d", "join p wind", "pace (s1)", "pace(1 2)", "windt", "wind t 1", "pace 1 +  12345"};
        int[] places = {0, 3, 0, 2, 0, 0, 0, 0, 0, 4, 5, 6, 4, 7, 6, 6,
            7, 5, 5, 5, 5, 5, 5, 5, 5, 7, 8, 5, 7,
            5, 8, 8, 10, 7, 8, 6, 6, 8, 6, 7, 6,
            6, 6, 9, 5, 6, 4, 6, 0, 6, 7, 7, 5, 9,
            7, 5, 7, 7, 7, 7, 0, 7, 10};
        for (int i = 0; i < bad.length; i++) {
            fault(bad[i], places[i]);
        }
    }

    static void howDeepTextsGo() {
        fault("pace " + "(".repeat(8) + "1" + ")".repeat(8), -1);
        fault("pace " + "(".repeat(9) + "1" + ")".repeat(9), 13);
        fault("pace " + "!".repeat(8) + "1", -1);
        fault("pace " + "!".repeat(9) + "1", 13);
        fault("pace " + "!(".repeat(8) + "1" + ")".repeat(8), -1);
        fault("pace " + "!".repeat(8) + "(".repeat(8) + "1" + ")".repeat(8), -1);
        fault("pace " + "!(".repeat(8) + "!1" + ")".repeat(8), 21);
        fault("pace " + "!".repeat(8) + "(1+!1)", 16);
        fault("pace " + "(1)+".repeat(12) + "(1)", -1);
        fault("pace " + "!1+".repeat(12) + "!1", -1);
        fault("pace " + "(".repeat(8) + "1)+(1" + ")".repeat(8), -1);
        fault("pace " + "(".repeat(8) + "1)+((1", 17);
        fault("pace !!!!!!!!1+!!!!!!!!1", -1);
        fault("pace !!!!!!!!1+!!!!!!!!!1", 23);
    }

    /** What a pace without names gives to a flame of kind 0, within 0 .. 40. */
    static void gives(String e, int due) {
        CandleTurns x = new CandleTurns();
        x.flame(0, 0, 3);
        x.flame(0, 0, 7);
        Due.text(x, "pace " + e);
        DUE.due(e, x.told(1, 7), due);
    }

    static void whatPaceGives() {
        String[] es = {"s", "n", "10*s+n", "40", "41", "9999", "0-1", "2+3*4", "(2+3)*4", "9-3-2", "9-(3-2)", "20/3", "(0-20)/3+10", "7/0", "(1-8)/2+9",
            "24/4/2", "24/(4/2)", "2*9/4", "1<2", "2<1", "2<2", "2=2", "2=3", "3>2", "2>2", "1|0", "0|0", "7&8", "7&0", "1|1&0", "(1|1)&0", "!0", "!5", "!!5",
            "!s+4", "!(s+4)", "3+1<5", "(1<2)=1+9", "1+(1<2)", "5&2<3", "0-3|0", "(0-1)&(0-1)", "20-!0*4", "0007", "1<2&2<3",
            "9999*9999*9999*9999/9999/9999", "(2147*1000*1000+483*1000+647+1<0)*11", "(0-2147*1000*1000-483*1000-648)/(0-1)<0"};
        int[] due = {7, 1, 71 > 40 ? 40 : 71, 40, 40, 40, 0, 14, 20, 4, 8, 6, 4, 0, 6,
            3, 12, 4, 1, 0, 0, 1, 0, 1, 0, 1, 0, 1, 0, 1, 0, 1, 0, 1,
            4, 0, 1, 0, 2, 1, 1, 1, 16, 7, 1,
            Math.max(0, Math.min(40, 9999 * 9999 * 9999 * 9999 / 9999 / 9999)), 11, 1};
        for (int i = 0; i < es.length; i++) {
            gives(es[i], due[i]);
        }
        int[] kinds = {30, 31, 15, 62, 0, 32};
        CandleTurns x = new CandleTurns();
        Due.text(x, "pace 30+n*0");
        for (int kind = 0; kind < 6; kind++) {
            x.flame(kind, 0, 3);
            DUE.due("a law of pace for kind " + kind, x.told(kind, 7), kinds[kind]);
        }
        Due.text(x, "pace 5");
        DUE.due("what was told last counts", x.told(0, 7), 5);
    }

    static void whatJoinGives() {
        CandleTurns x = new CandleTurns();
        x.flame(0, 1010, 3);
        x.flame(0, 1315, 7);
        x.set(0, 1, 100);
        Due.text(x, "join d");
        DUE.due("d", x.push(0, 1), 8);
        Due.text(x, "join p");
        DUE.due("p", x.push(0, 1), 20);
        DUE.due("p the other way", x.push(1, 0), -20);
        x.set(0, 1, 113);
        DUE.due("p 7", x.push(0, 1), 7);
        Due.text(x, "join s");
        DUE.due("s is of the other", x.push(0, 1), 7);
        DUE.due("s is of the other too", x.push(1, 0), 3);
        Due.text(x, "join 21");
        DUE.due("held above", x.push(0, 1), 20);
        Due.text(x, "join 0-21");
        DUE.due("held below", x.push(0, 1), -20);
        x.move(1, 2929);
        DUE.due("reaches are not asked", x.push(0, 1), -20);
        x.glass(0, 1, 1);
        DUE.due("glass is", x.push(0, 1), 0);
        x.glass(0, 1, 0);
        x.set(1, 2, 0);
        DUE.due("gas is", x.push(0, 1), 0);
    }

    static void whatWindGives() {
        CandleTurns x = new CandleTurns();
        x.flame(0, 0, 3);
        x.flame(5, 2929, 2);
        DUE.due("wind", Due.text(x, "wind 10*t+n"), 0);
        x.run(1);
        DUE.due("tick 0, flame 1", x.told(1, 4), 12 + 1);
        DUE.due("nothing for others", x.told(0, 4), 9);
        x.run(1);
        DUE.due("tick 1", x.told(1, 4), 13 + 12 + 11);
        x.run(2);
        DUE.due("ticks 2 and 3, held above", x.told(1, 4), 36 + 12 + 21 + 12 + 30);
        DUE.due("no draws", x.count(8), 1);
        Due.text(x, "wind 0-99");
        DUE.due("below 0", x.run(1), 0);
        DUE.due("held below", x.told(1, 4), 111 + 12 - 30);
        DUE.due("in thought ticks go on", x.film(1, 2), -36);
        Due.text(x, "wind t-6");
        DUE.due("from tick 5 on: -1, 0, 1", x.film(1, 3), 36);
    }

    static void promise25TextTold() {
        CandleTurns x = new CandleTurns();
        DUE.due("no text", x.textTold(0, 0), BAD);
        Due.text(x, "wind t+n*(3-!44)");
        Due.text(x, "pace 1");
        Due.text(x, "join d&p&s&s|0 ");
        Due.text(x, "join d d");
        int[] keys = {2, 0, 1};
        int[] leaves = {4, 1, 5};
        for (int i = 0; i < 3; i++) {
            DUE.due("key of " + i, x.textTold(i, 0), keys[i]);
            DUE.due("numbers and names of " + i, x.textTold(i, 1), leaves[i]);
        }
        DUE.due("text 3", x.textTold(3, 0), BAD);
        DUE.due("text -1", x.textTold(-1, 0), BAD);
        DUE.due("what 2", x.textTold(0, 2), BAD);
        DUE.due("what -1", x.textTold(0, -1), BAD);
    }

    static void promise26Why() {
        CandleTurns x = new CandleTurns();
        DUE.due("why -1", x.why(-1), BAD);
        DUE.due("why 3", x.why(3), BAD);
        Due.text(x, "join 1");
        DUE.due("none of pace", x.why(0), NONE);
        DUE.due("of join", x.why(1), 0);
        DUE.due("none of wind", x.why(2), NONE);
        Due.text(x, "wind 1");
        Due.text(x, "join 2");
        Due.text(x, "join 2 2");
        DUE.due("of join the last", x.why(1), 2);
        DUE.due("of wind", x.why(2), 1);
    }
}
