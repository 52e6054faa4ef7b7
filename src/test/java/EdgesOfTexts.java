/** The edges of the document's 'Terms', part 4, TEXTS. */
final class EdgesOfTexts {
    private static final String[] KEYS = {"pace", "join", "wind"};
    private static final String[] NAMES = {"sn", "dps", "tn"};
    private static final int GOOD = -1;

    private EdgesOfTexts() {
    }

    static void all(Rows r) {
        fourteenTexts(r);
        theTape(r);
        keys(r);
        everyByteBetween(r);
        everyByteAsAPiece(r);
        everyByteAtTheEnds(r);
        levels(r);
        numbers(r);
        names(r);
        wordsAndBlanks(r);
        endsTooSoon(r);
        faultsAtWords(r);
        deepBrackets(r);
        deepNots(r);
        intsWrap(r);
        truths(r);
        toldLast(r);
    }

    static boolean isLetter(int b) {
        return b >= 97 && b <= 122;
    }

    static boolean isDigit(int b) {
        return b >= 48 && b <= 57;
    }

    static boolean isJoining(int b) {
        return b < 128 && "|&<=>+-*/".indexOf((char) b) >= 0;
    }

    static void fourteenTexts(Rows r) {
        r.says("TEXTS, 14 at most, numbered from 0,");
        r.begin("count 5 = 0; textTold 0 0 = BAD");
        for (int i = 0; i < 14; i++) {
            r.text(KEYS[i % 3] + " " + i, String.valueOf(i));
            r.go("count 5 = " + (i + 1) + "; textTold " + i + " 0 = " + i % 3 + "; textTold " + (i + 1) + " 0 = BAD; textTold -1 0 = BAD");
        }
        r.text("pace 14", "FULL");
        r.go("count 5 = 14; count 7 = 0; why 0 = 12; why 1 = 13; why 2 = 11; textTold 14 0 = BAD");
        r.begin();
        for (int i = 0; i < 13; i++) {
            r.text("join " + i, String.valueOf(i));
        }
        r.go("keep");
        r.text("join 13", "13");
        r.text("join 14", "FULL");
        r.go("flame 0 0 1; flame 0 0 1; push 0 1 = 13; back; count 5 = 13; why 1 = 12");
        r.text("join 15", "13");
        r.text("join 16", "FULL");
        r.go("flame 0 0 1; flame 0 0 1; push 0 1 = 15; back; flame 0 0 1; flame 0 0 1; push 0 1 = 12");
    }

    static void theTape(Rows r) {
        r.says("from THE TAPE (96 bytes at most; an act that reads it uses it up, whatever it answers):");
        r.begin("count 7 = 0");
        for (int i = 1; i <= 8; i++) {
            r.go("feed 0 0 0 = " + 12 * i);
        }
        r.go("feed 0 0 0 = FULL; count 7 = 96; trim 97 = BAD; trim 85 = 85; feed 0 0 0 = FULL; count 7 = 85; trim 84; feed 0 0 0 = 96; text = -100; count 7 = 0; text = -100");
        r.text("pace 1" + "+1".repeat(45), "0");
        r.go("count 7 = 0; textTold 0 1 = 46");
        r.text("pace 1" + "+1".repeat(44) + "+", "-195");
        r.text("pace 1" + "+1".repeat(44) + "++", "-195");
        r.text("pace 1" + "+1".repeat(44) + "+ ", "-196");
        r.text(" ".repeat(96), "-196");
        r.text(" ".repeat(90) + "pace 7", "1");
        r.text("pace 7" + " ".repeat(90), "2");
        r.go("count 7 = 0; text = -100; flame 0 0 1; told 0 7 = 7");
    }

    static void keys(Rows r) {
        r.says("KEY E. KEY: pace | join | wind.");
        for (int key = 0; key < 3; key++) {
            r.begin();
            r.text(KEYS[key] + " 1", "0");
            r.go("textTold 0 0 = " + key + "; why " + key + " = 0; why " + (key + 1) % 3 + " = NONE; why " + (key + 2) % 3 + " = NONE");
            r.fault(KEYS[key], 4);
            r.fault(KEYS[key].substring(0, 3) + " 1", 0);
            r.fault(KEYS[key] + "s 1", 0);
            r.fault(KEYS[key].substring(1) + " 1", 0);
            r.fault("  " + KEYS[key].toUpperCase(java.util.Locale.ROOT) + " 1", 2);
            r.fault(KEYS[key] + " " + KEYS[key], 5);
            for (int at = 0; at < 4; at++) {
                StringBuilder other = new StringBuilder(KEYS[key]).append(" 1");
                other.setCharAt(at, 'z');
                r.fault(other.toString(), 0);
            }
        }
        r.fault("1", 0);
        r.fault("(pace 1)", 0);
        r.fault(" !pace 1", 1);
        r.fault("s", 0);
    }

    /** Each byte between a key and a number, and between two numbers. */
    static void everyByteBetween(Rows r) {
        r.says("A word is a row of letters a .. z, or of digits, as long as it goes; any other byte is a sign by itself.");
        for (int b = 0; b < 256; b++) {
            String sign = String.valueOf((char) b);
            int behindKey = b == 32 || b == '!' ? GOOD : b == '(' ? 6 : isLetter(b) ? 0 : 4;
            r.fault("pace" + sign + "1", behindKey);
            int between = isJoining(b) || isDigit(b) ? GOOD : b == 32 ? 7 : 6;
            r.fault("wind 1" + sign + "1", between);
        }
    }

    static void everyByteAsAPiece(Rows r) {
        r.says("PIECE: NUMBER (1 to 4 digits) | NAME | ! PIECE | ( E ).");
        for (int key = 0; key < 3; key++) {
            for (int b = 0; b < 256; b++) {
                boolean isName = NAMES[key].indexOf((char) b) >= 0;
                int due = isDigit(b) || isName ? GOOD : b == 32 || b == '!' || b == '(' ? 6 : 5;
                r.fault(KEYS[key] + " " + (char) b, due);
            }
        }
        r.fault("pace (1)", GOOD);
        r.fault("pace ((1<2)=3)", GOOD);
        r.fault("pace !(1)", GOOD);
        r.fault("pace (!1)", GOOD);
        r.fault("pace ()", 6);
        r.fault("pace (1+)", 8);
        r.fault("pace !+1", 6);
        r.fault("pace !+", 6);
        r.fault("pace (+", 6);
        r.fault("pace (+)", 6);
        r.fault("pace (!*", 7);
        r.fault("pace !(<", 7);
        r.fault("pace 1+*", 7);
        r.fault("pace 1<|", 7);
        r.fault("pace 1&&", 7);
        r.fault("pace d+", 5);
        r.fault("pace 12345+", 5);
        r.fault("pace !)", 6);
        r.fault("pace 1(2)", 6);
        r.fault("pace (1)2", 8);
        r.fault("pace (1)(2)", 8);
        r.fault("pace 1!2", 6);
        r.fault("pace (1))", 8);
        r.fault("pace )", 5);
    }

    static void everyByteAtTheEnds(Rows r) {
        r.says("Between words and signs, and at the ends, there may be blanks (byte 32);");
        for (int b = 0; b < 256; b++) {
            r.fault((char) b + "join 1", b == 32 ? GOOD : 0);
            r.fault("join 1" + (char) b, b == 32 || isDigit(b) ? GOOD : isJoining(b) ? 7 : 6);
            r.fault("join d" + (char) b, b == 32 ? GOOD : isLetter(b) ? 5 : isJoining(b) ? 7 : 6);
        }
        r.fault("   join   !   (   d   +   12   )   <   p   ", GOOD);
        r.fault("join!(d+12)<p", GOOD);
        r.fault("join(1)", GOOD);
        r.fault("join 1 2", 7);
        r.fault("join 1  2", 8);
        r.fault("join d p", 7);
        r.fault("jo in 1", 0);
    }

    /** What a pace gives to a flame of size 7, number 1. */
    static void gives(Rows r, String e, int due) {
        r.begin("flame 0 0 3; flame 0 0 7");
        r.text("pace " + e, "0");
        r.go("told 1 7 = " + due);
    }

    static void levels(Rows r) {
        r.says("E, the loosest first: OR: AND { | AND }; AND: TEST { & TEST }; TEST: SUM [ (< | = | >) SUM ]; SUM: TERM { (+ | -) TERM }; TERM: PIECE { (* | /) PIECE };");
        String[] es = {"1|1&0", "0&1|1", "0&1<1", "1=0&0", "2<1+2", "1+1<1", "4-1>2", "4=1*4", "2+3*4", "3*4+2", "20-8/4", "8/4-1", "9-3-2", "9-3+2", "24/4/2", "24/4*2", "7*5/2", "7/2*5",
            "!0+4", "!0*3", "4+!0", "3*!0", "!0<1", "!0=1", "1|0|0", "0|0|1", "1&1&0", "1&1&1", "(1|1)&0", "(2<1)+2", "(2+3)*4", "20-(8-4)", "24/(4/2)", "!(0+4)", "1<2&2<3|0",
            "0|1<2&3>4", "3>2|9", "9&3>4"};
        int[] due = {1, 1, 0, 0, 1, 0, 1, 1, 14, 14, 18, 1, 4, 8, 3, 12, 17, 15,
            5, 3, 5, 3, 0, 1, 1, 1, 0, 1, 0, 2, 20, 16, 12, 0, 1,
            0, 1, 0};
        for (int i = 0; i < es.length; i++) {
            gives(r, es[i], due[i]);
        }
        for (String one : new String[] {"<", "=", ">"}) {
            for (String other : new String[] {"<", "=", ">"}) {
                r.fault("pace 1" + one + "2" + other + "3", 8);
                r.fault("pace 1" + one + "2+4*5" + other + "3", 12);
                r.fault("pace (1" + one + "2)" + other + "3", GOOD);
                r.fault("pace 1" + one + "(2" + other + "3)", GOOD);
                r.fault("pace 1" + one + "2&2" + other + "3", GOOD);
                r.fault("pace 1" + one + "2|2" + other + "3", GOOD);
                r.fault("pace 1" + one + other + "3", 7);
            }
        }
    }

    static void numbers(Rows r) {
        gives(r, "0", 0);
        gives(r, "7", 7);
        gives(r, "39", 39);
        gives(r, "007", 7);
        gives(r, "0039", 39);
        gives(r, "999-970", 29);
        gives(r, "9999-9970", 29);
        gives(r, "1000-0970", 30);
        r.fault("pace 9999", GOOD);
        r.fault("pace 10000", 5);
        r.fault("pace 0000", GOOD);
        r.fault("pace 00000", 5);
        r.fault("pace 1+12345", 7);
        r.fault("pace 1+ 123456789012", 8);
        r.fault("pace 1234 5", 10);
        r.fault("pace (99999", 6);
        r.fault("pace " + "9".repeat(91), 5);
    }

    static void names(Rows r) {
        r.says("NAMES, each one letter: of pace s SIZE, n the number of the FLAME; of join d, p, s SIZE of the other one; "
            + "of wind t TICK (as it was ahead of the one that goes by), n.");
        r.begin("deal 8");
        r.text("pace s", "0");
        for (int i = 0; i < 8; i++) {
            r.go("turns " + i + " 0; set " + i + " 0 " + (1 + i) + "; told " + i + " 7 = " + (1 + i));
        }
        r.text("pace n", "1");
        r.go("told 0 7 = 0; told 1 7 = 1; told 7 7 = 7");
        r.begin("flame 0 0 1; flame 0 1009 9; set 0 1 119; set 1 1 4");
        r.text("join s", "0");
        r.go("push 0 1 = 9; push 1 0 = 1");
        r.text("join d", "1");
        r.go("push 0 1 = 19; push 1 0 = 19");
        r.text("join p", "2");
        r.go("push 0 1 = 5; push 1 0 = -5");
        r.begin("flame 5 0 1; flame 5 2929 1; set 0 1 20; set 1 1 20; run 3; seed 1; set 0 1 20; set 1 1 20");
        r.text("pace 0", "0");
        r.text("wind t*10", "1");
        r.go("film 0 1 = 32; run 1; told 0 4 = 52; told 1 4 = 52; set 0 1 20; film 0 1 = 32; keep; run 9; back; film 0 1 = 32; count 2 = 4");
        r.text("wind n*9", "2");
        r.go("run 1; told 0 4 = 22; told 1 4 = 63; film 1 2 = 22");
        for (String word : new String[] {"ss", "ns", "sn", "nn"}) {
            r.fault("pace " + word, 5);
        }
        r.fault("join dp", 5);
        r.fault("wind tn", 5);
        r.fault("pace 1+ss", 7);
    }

    static void wordsAndBlanks(Rows r) {
        r.says("a word right behind another one needs one.");
        r.fault("pace1", 4);
        r.fault("pace 1s", 6);
        r.fault("pace s1", 6);
        r.fault("pace s 1", 7);
        r.fault("pace1 1", 4);
        r.fault("pace(s1)", 6);
        r.fault("pace 1234s", 9);
        r.fault("pace 12345s", 5);
        r.fault("pace12345", 4);
        r.fault("pace s12345", 6);
        r.fault("1pace 1", 0);
        r.fault("pace 1pace", 6);
        r.fault("pace s+1n", 8);
    }

    /** Each beginning of a text is a text, or ends too soon: at its end. */
    static void endsTooSoon(Rows r) {
        r.says("FAULT: the first byte of the first word or sign with which no TEXT goes on");
        r.says("the end (the place behind the last byte), if it comes too soon.");
        String whole = "join !(d + 12)*p<s|4&((7))/!!1-(2=2) ";
        for (int length = 0; length <= whole.length(); length++) {
            String part = whole.substring(0, length);
            boolean isText = isTextAt(whole, length);
            r.fault(part, length > 0 && length < 4 ? 0 : isText ? GOOD : length);
        }
        r.fault("", 0);
        r.fault(" ", 1);
        r.fault("pace ", 5);
        r.fault("pace  ", 6);
        r.fault("pace 1+ ", 8);
        r.fault("pace (1 ", 8);
        r.fault("pace !  ", 8);
    }

    /** No ( is open, and what stands last is a number, a name, a ), or a blank behind one. */
    static boolean isTextAt(String whole, int length) {
        String part = whole.substring(0, length).stripTrailing();
        int open = 0;
        for (char c : part.toCharArray()) {
            open += c == '(' ? 1 : c == ')' ? -1 : 0;
        }
        return length > 5 && open == 0 && "dps0123456789)".indexOf(part.charAt(part.length() - 1)) >= 0;
    }

    static void faultsAtWords(Rows r) {
        r.says("FAULT: the first byte of the first word or sign with which no TEXT goes on (a word that needs a blank ahead of it, a NUMBER of more than 4 digits, "
            + "the ninth ( that would be open within others, the ninth ! likewise, each by itself);");
        r.fault("pace  abc", 6);
        r.fault("pace 1 +  abc", 10);
        r.fault("pace 1 +  12345", 10);
        r.fault("pace 1 ++ 12345", 8);
        r.fault("pace d + 12345", 5);
        r.fault("pac 12345", 0);
        r.fault("pace 1 @ 12345", 7);
        r.fault("pace 12 34", 8);
    }

    static void deepBrackets(Rows r) {
        r.fault("pace " + "(".repeat(7) + "1" + ")".repeat(7), GOOD);
        r.fault("pace " + "(".repeat(8) + "1" + ")".repeat(8), GOOD);
        r.fault("pace " + "(".repeat(9) + "1" + ")".repeat(9), 13);
        r.fault("pace " + "(".repeat(9), 13);
        r.fault("pace " + "(".repeat(8), 13);
        r.fault("pace " + "(".repeat(8) + " (", 14);
        r.fault("pace " + "(".repeat(8) + "1" + ")".repeat(9), 22);
        r.fault("pace " + "(".repeat(8) + "1)+(1)+(1" + ")".repeat(8), GOOD);
        r.fault("pace " + "(".repeat(8) + "1)+((1", 17);
        r.fault("pace " + "(1+".repeat(8) + "1" + ")".repeat(8), GOOD);
        r.fault("pace " + "(1+".repeat(8) + "(", 29);
        r.fault("pace " + "(1)+".repeat(22) + "1", GOOD);
        r.fault("pace " + "(".repeat(8) + "1" + ")".repeat(8) + "*" + "(".repeat(8) + "1" + ")".repeat(8), GOOD);
        r.fault("pace " + "(".repeat(8) + "1" + ")".repeat(8) + "*" + "(".repeat(9), 31);
        r.fault("pace " + "(".repeat(91), 13);
        gives(r, "(".repeat(8) + "s" + ")".repeat(8), 7);
        gives(r, "(1+".repeat(8) + "1" + ")".repeat(8), 9);
    }

    static void deepNots(Rows r) {
        r.fault("pace " + "!".repeat(7) + "1", GOOD);
        r.fault("pace " + "!".repeat(8) + "1", GOOD);
        r.fault("pace " + "!".repeat(9) + "1", 13);
        r.fault("pace " + "!".repeat(8), 13);
        r.fault("pace " + "! ".repeat(9) + "1", 21);
        r.fault("pace " + "!".repeat(91), 13);
        r.fault("pace " + "!1+".repeat(30) + "1", GOOD);
        r.fault("pace " + "!".repeat(8) + "1*" + "!".repeat(8) + "1", GOOD);
        r.fault("pace " + "!".repeat(8) + "1*" + "!".repeat(9) + "1", 23);
        r.fault("pace " + "!".repeat(8) + "(".repeat(8) + "1" + ")".repeat(8), GOOD);
        r.fault("pace " + "(".repeat(8) + "!".repeat(8) + "1" + ")".repeat(8), GOOD);
        r.fault("pace " + "(".repeat(8) + "!".repeat(9) + "1" + ")".repeat(8), 21);
        r.fault("pace " + "!(".repeat(8) + "1" + ")".repeat(8), GOOD);
        r.fault("pace " + "!(".repeat(8) + "(", 21);
        r.fault("pace " + "!(".repeat(8) + "!1", 21);
        r.fault("pace " + "!(".repeat(8) + "1" + ")".repeat(8) + "+" + "!(".repeat(8) + "1" + ")".repeat(8), GOOD);
        r.fault("pace " + "!".repeat(8) + "(1+!1)", 16);
        r.fault("pace " + "!".repeat(7) + "(1+!1)", GOOD);
        r.fault("pace " + "!".repeat(7) + "(1+!!1)", 16);
        r.fault("pace " + "(".repeat(8) + "1+!1" + ")".repeat(8), GOOD);
        r.fault("pace " + "(".repeat(8) + "1<" + "!".repeat(8) + "1" + ")".repeat(8), GOOD);
        r.fault("pace " + "!".repeat(8) + "1+" + "(".repeat(8) + "1" + ")".repeat(8), GOOD);
        r.fault("pace " + "!".repeat(8) + "1+" + "(".repeat(9), 23);
        gives(r, "!".repeat(8) + "s", 1);
        gives(r, "!".repeat(7) + "s", 0);
    }

    static void intsWrap(Rows r) {
        r.says("Ints wrap; / is 0 by 0;");
        String most = "(2147*1000*1000+483*1000+647)";
        String least = "(0-2147*1000*1000-483*1000-648)";
        gives(r, most + "+1<0", 1);
        gives(r, most + "+1=" + least, 1);
        gives(r, least + "-1>0", 1);
        gives(r, "0-" + least + "<0", 1);
        gives(r, most + "*2+2", 0);
        gives(r, most + "*2+9", 7);
        gives(r, least + "/(0-1)=" + least, 1);
        gives(r, most + "/(0-1)<0", 1);
        gives(r, "9999*9999*9999*9999/9999/9999", Math.max(0, Math.min(40, 9999 * 9999 * 9999 * 9999 / 9999 / 9999)));
        gives(r, "7/0", 0);
        gives(r, "0/0", 0);
        gives(r, "7+7/0", 7);
        gives(r, "7/(s-7)+3", 3);
        gives(r, "9/0*5+1", 1);
        gives(r, "7/(0/7)", 0);
        gives(r, "20/3", 6);
        gives(r, "(0-20)/3+20", 14);
        gives(r, "20/(0-3)+20", 14);
    }

    static void truths(Rows r) {
        r.says("tests, & | ! give 1 or 0 (what is not 0 is true; both sides are worked out).");
        String[] es = {"1<2", "2<2", "3<2", "1=2", "2=2", "3=2", "1>2", "2>2", "3>2", "0-1<0", "0>0-1", "5&9", "5&0", "0&5", "0&0", "5|9", "5|0", "0|5", "0|0", "2&1", "2|1", "(0-1)&(0-1)",
            "(0-1)|0", "0|(0-1)", "!0", "!1", "!9", "!(0-1)", "!!9", "!!0", "1|1/0", "0&1/0"};
        int[] due = {1, 0, 0, 0, 1, 0, 0, 0, 1, 1, 1, 1, 0, 0, 0, 1, 1, 1, 0, 1, 1, 1,
            1, 1, 1, 0, 0, 0, 1, 0, 1, 0};
        for (int i = 0; i < es.length; i++) {
            gives(r, es[i], due[i]);
            gives(r, "5+(" + es[i] + ")", 5 + due[i]);
        }
    }

    static void toldLast(Rows r) {
        r.says("Of a KEY that TEXT counts that was told last.");
        r.begin("flame 0 0 1; flame 0 0 1; set 1 1 40; told 0 7 = 11; push 0 1 = 10");
        r.text("pace 5", "0");
        r.go("told 0 7 = 5; push 0 1 = 10; why 0 = 0; why 1 = NONE");
        r.text("join 3", "1");
        r.text("pace 6", "2");
        r.go("told 0 7 = 6; push 0 1 = 3; why 0 = 2; why 1 = 1; why 2 = NONE");
        r.text("pace 7 7", "-107");
        r.text("join 4 4", "-107");
        r.go("told 0 7 = 6; push 0 1 = 3; why 0 = 2; why 1 = 1; keep");
        r.text("join 2", "3");
        r.go("push 0 1 = 2; why 1 = 3; textTold 1 0 = 1; back; push 0 1 = 3; why 1 = 1");
    }
}
