import java.nio.charset.StandardCharsets;

/** The edges of the document's promises 22 to 40: texts, sheets, slots, rows, images. */
final class EdgesOfPromises22To40 {
    private EdgesOfPromises22To40() {
    }

    static void all(Rows r) {
        promise22Feed(r);
        promise23Trim(r);
        promise24Text(r);
        promise25TextTold(r);
        promise26Why(r);
        promise27Sheet(r);
        promise28Mark(r);
        promise29Pour(r);
        promise30Reads(r);
        promise31Copy(r);
        promise31CopyOverItself(r);
        promise32Lay(r);
        promise33Ask(r);
        promise34Item(r);
        promise35Rest(r);
        promise36Tell(r);
        promise37Check(r);
        promise38Keep(r);
        promise39Back(r);
        promise40Count(r);
        calls512(r);
    }

    static void promise22Feed(Rows r) {
        r.says("Twelve bytes come to THE TAPE, the highest of each number first: how many it has. FULL: it would have more than 96.");
        // "pace", " 10+", "s   "
        r.begin("feed " + 0x70616365 + " " + 0x2031302b + " " + 0x73202020 + " = 12; text = 0; flame 0 0 7; told 0 7 = 17");
        for (int at = 0; at < 12; at++) {
            byte[] bytes = "pace        ".getBytes(StandardCharsets.ISO_8859_1);
            bytes[at] = (byte) 200;
            r.begin("feed " + Due.four(bytes, 0) + " " + Due.four(bytes, 4) + " " + Due.four(bytes, 8) + " = 12; text = " + (-100 - (at < 4 ? 0 : at)));
        }
        for (int length = 0; length <= 96; length++) {
            r.begin();
            for (int i = 0; i < 8 && i * 12 < length; i++) {
                r.go("feed -1 -1 -1");
            }
            r.go("trim " + length, "feed 0 0 0 = " + (length <= 84 ? String.valueOf(length + 12) : "FULL"), "count 7 = " + (length <= 84 ? length + 12 : length));
        }
        EdgesOfPromises1To21.busy(r);
        r.go("count 7 = 8; feed 0 0 0 = 20; feed 0 0 0 = 32; trim 8 = 8; text = 2; why 2 = 2");
    }

    static void promise23Trim(Rows r) {
        r.says("THE TAPE keeps its first n bytes: n. BAD.");
        r.begin("trim 0 = 0 same; trim 1 = BAD; trim -1 = BAD; trim MIN = BAD; trim MAX = BAD");
        EdgesOfPromises1To21.busy(r);
        r.bounds("trim %", 0, 8, "BAD");
        r.go("trim 8 = 8 same; trim 6 = 6; count 7 = 6; trim 7 = BAD; text = 2; why 2 = 2; trim 1 = BAD; trim 0 = 0 same");
        r.begin();
        r.tape("pace 12+x+3");
        r.go("trim 7 = 7; text = 0; flame 0 0 1; told 0 7 = 12");
        r.begin();
        r.tape("x".repeat(96));
        r.bounds("trim %", 0, 96, "BAD");
    }

    static void promise24Text(Rows r) {
        r.says("THE TAPE is a TEXT: its number. -100 less the place of its FAULT; FULL.");
        EdgesOfPromises1To21.busy(r);
        r.go("text = 2; count 5 = 3; count 7 = 0; why 0 = 0; why 1 = 1; why 2 = 2; text = -100; count 5 = 3");
        r.text("wind 1 1", "-107");
        r.go("why 2 = 2; count 5 = 3");
        r.text(" ".repeat(95) + "a", "-195");
        r.text(" ".repeat(95) + "p", "-195");
        r.text(" ".repeat(92) + "pace", "-196");
        for (int i = 3; i < 14; i++) {
            r.text("wind " + i, String.valueOf(i));
        }
        r.text("wind 14", "FULL");
        r.text("wind", "-104");
        r.go("why 2 = 13; text = -100; count 5 = 14");
    }

    static void promise25TextTold(Rows r) {
        r.says("Of a TEXT: what 0 KEY (0 pace, 1 join, 2 wind), 1 how many NUMBERS and NAMES it has. BAD.");
        EdgesOfPromises1To21.busy(r);
        r.bounds("textTold % 0", 0, 1, "BAD");
        r.bounds("textTold % 1", 0, 1, "BAD");
        r.bounds("textTold 1 %", 0, 1, "BAD");
        r.go("textTold 2 2 = BAD; textTold 0 0 = 0; textTold 0 1 = 2; textTold 1 0 = 1; textTold 1 1 = 2; text = 2; textTold 2 0 = 2; textTold 2 1 = 2");
        r.begin("textTold 0 0 = BAD; textTold 0 1 = BAD");
        r.text("pace 1", "0");
        r.text("join !!!(((1)))", "1");
        r.text("wind t|n&1<2+3*4/5-(6)", "2");
        r.text("pace 0000", "3");
        r.go("textTold 0 1 = 1; textTold 1 1 = 1; textTold 2 1 = 8; textTold 3 1 = 1; textTold 0 0 = 0; textTold 1 0 = 1; textTold 2 0 = 2");
        r.text("pace s s", "-107");
        r.text("pace s", "4");
        r.go("textTold 4 1 = 1; textTold 5 1 = BAD; keep; textTold 4 1 = 1");
        r.text("pace s+s+s", "5");
        r.go("textTold 5 1 = 3; back; textTold 5 1 = BAD; textTold 4 1 = 1");
        r.text("join 1+2", "5");
        r.go("textTold 5 0 = 1; textTold 5 1 = 2");
    }

    static void promise26Why(Rows r) {
        r.says("The TEXT that counts for a KEY. BAD; NONE.");
        EdgesOfPromises1To21.busy(r);
        r.bounds("why %", 0, 2, "BAD");
        r.go("why 0 = 0; why 1 = 1; why 2 = NONE; text = 2; why 2 = 2; back; why 0 = NONE; why 1 = NONE; why 2 = NONE");
        r.text("join 1", "0");
        r.go("why 0 = NONE; why 1 = 0; why 2 = NONE; why 3 = BAD");
    }

    static void promise27Sheet(Rows r) {
        r.says("A SHEET becomes a row of n places of a sort, all 0 (sort -1: MISSING, n any): n (0). BAD: sheet, sort, n above 24; SIZE.");
        EdgesOfPromises1To21.busy(r);
        for (int sort = -1; sort <= 1; sort++) {
            r.bounds("sheet % " + sort + " 1", 0, 3, "BAD");
        }
        r.bounds("sheet 0 % 3", -1, 1, "BAD");
        for (int sort = 0; sort <= 1; sort++) {
            r.within("sheet 0 " + sort + " %", 0, 1, 23, 24);
            r.go("sheet 0 " + sort + " 25 = BAD; sheet 0 " + sort + " MAX = BAD; sheet 0 " + sort + " -1 = SIZE; sheet 0 " + sort + " MIN = SIZE");
            r.go("sheet 2 " + sort + " 25 = BAD; sheet 2 " + sort + " -1 = SIZE; sheet 4 " + sort + " 25 = BAD; sheet 4 " + sort + " -1 = BAD; reads 2 = NOTHING");
        }
        r.go("sheet 0 2 -1 = BAD; sheet 0 2 25 = BAD; sheet 0 -2 -1 = BAD; sheet 4 -1 -1 = BAD; sheet 2 -1 5 = 0 same");
        for (String n : new String[] {"0", "1", "24", "25", "-1", "MIN", "MAX"}) {
            r.go("sheet 3 0 2 = 2; reads 3; sheet 3 -1 " + n + " = 0; reads 3 = NOTHING; lay 3 2 3 = NOTHING");
        }
        r.go("lay 3 2 0; item 3 0 = 5; sheet 0 0 3 = 3; lay 3 2 0; item 3 0 = 0; item 3 2 = 0; item 3 3 = INDEX; sheet 0 1 24 = 24; lay 3 2 0; item 3 0 = 0; item 3 23 = 0; mark 0 23 NONE = 1");
        r.go("sheet 0 0 24 = 24; lay 3 2 0; item 3 23 = 0; mark 0 23 NONE = KIND; sheet 1 1 2; lay 3 2 1; item 3 1 = 0; item 1 0 = 5");
    }

    static void promise28Mark(Rows r) {
        r.says("A place of a SHEET becomes v (of shorts its lowest 16 bits; of floats v, -99999 .. 99999; NONE: NO NUMBER): 1. "
            + "BAD: sheet; NOTHING; INDEX; KIND: NONE in a row of shorts; BAD: v of floats.");
        EdgesOfPromises1To21.busy(r);
        r.go("sheet 2 0 24; sheet 3 1 24");
        r.bounds("mark % 0 1", 0, 3, "BAD");
        r.bounds("mark 0 % 1", 0, 2, "INDEX");
        r.bounds("mark 1 % 1", 0, 1, "INDEX");
        r.bounds("mark 2 % 1", 0, 23, "INDEX");
        r.bounds("mark 3 % 1", 0, 23, "INDEX");
        r.bounds("mark 1 0 %", -99999, 99999, "BAD");
        r.go("mark 1 2 100000 = INDEX; mark 0 3 NONE = INDEX; mark 0 2 NONE = KIND; mark 4 0 NONE = BAD; mark 1 1 BAD = BAD; mark 1 1 " + (Due.NONE - 1) + " = BAD; mark 1 1 " + (Due.NONE + 1) + " = BAD");
        int[] given = {0, 1, -1, 32767, 32768, 65535, 65536, 65537, -32768, -32769, -65536, Rows.MAX, Rows.MIN, 99999, 100000, -100000, Due.BAD, Due.NONE + 1, Due.NONE - 1};
        for (int v : given) {
            int low = v & 65535;
            r.go("mark 0 2 " + v + " = 1; lay 3 2 0; item 3 2 = " + (low > 32767 ? low - 65536 : low));
        }
        for (int v : new int[] {-99999, 99999, 0, 32768, -32769, 65536, 70000}) {
            r.go("mark 1 1 " + v + " = 1; lay 3 2 1; item 3 1 = " + v);
        }
        r.go("mark 1 1 NONE = 1; lay 3 2 1; item 3 1 = KIND; item 3 0 = 0; mark 1 1 NONE = 1 same; mark 1 1 4 = 1; lay 3 2 1; item 3 1 = 4; lay 3 2 0; item 3 0 = 5; item 3 1 = 0");
        r.begin("mark 0 0 0 = NOTHING; mark 3 0 0 = NOTHING; mark 0 -1 NONE = NOTHING; sheet 0 0 1; mark 0 0 7; sheet 0 -1 0; mark 0 0 0 = NOTHING");
    }

    static void promise29Pour(Rows r) {
        r.says("PHASES of FLAMES, by numbers, become the places of a SHEET from 0 on that are 0 .. 119 (others, and NO NUMBER: it stays): how many are otherwise then. BAD; NOTHING.");
        EdgesOfPromises1To21.busy(r);
        r.go("pour 2 = NOTHING; pour 3 = NOTHING; sheet 2 0 1; sheet 3 1 1");
        r.bounds("pour %", 0, 3, "BAD");
        for (int sort = 0; sort < 2; sort++) {
            r.begin("flame 0 0 1; flame 0 0 1; set 0 1 50; set 1 1 60; sheet 0 " + sort + " 1");
            int[] given = {0, 119, 120, -1, 121, -120, 32767, -32768, 50};
            int[] due = {0, 119, 50, 50, 50, 50, 50, 50, 50};
            for (int i = 0; i < given.length; i++) {
                int many = due[i] == 50 ? 0 : 1;
                r.go("set 0 1 50; mark 0 0 " + given[i] + "; pour 0 = " + many + (many == 0 ? " same" : "") + "; told 0 4 = " + due[i] + "; told 1 4 = 60");
            }
        }
        r.go("mark 0 0 NONE; pour 0 = 0 same; mark 0 0 99999; pour 0 = 0 same; mark 0 0 -99999; pour 0 = 0 same; sheet 0 0 0; pour 0 = 0 same; sheet 1 0 1; mark 1 0 65536; pour 1 = 1; told 0 4 = 0");
        r.begin("flame 0 0 1; flame 0 0 1; set 1 2 0; sheet 0 0 3; mark 0 0 7; mark 0 1 8; mark 0 2 9; pour 0 = 2; told 0 4 = 7; told 1 4 = 8; pour 0 = 0 same; flame 0 0 1; told 2 4 = 0; pour 0 = 1");
        r.go("told 2 4 = 9; set 1 1 0; mark 0 0 120; pour 0 = 1; told 0 4 = 7; told 1 4 = 8; sheet 1 0 24; pour 1 = 3; told 2 4 = 0; pour 1 = 0 same");
        r.begin("sheet 0 0 24; pour 0 = 0 same; deal 8; sheet 0 0 24; pour 0; told 0 4 = 0; told 7 4 = 0; mark 0 7 119; mark 0 8 118; pour 0 = 1; told 7 4 = 119");
    }

    static void promise30Reads(Rows r) {
        r.says("The first place (of numbers alone) at which a SHEET is not PHASE of that FLAME (of places that are no FLAME all numbers are not). BAD; NOTHING; NONE: there is none.");
        EdgesOfPromises1To21.busy(r);
        r.go("reads 2 = NOTHING; reads 3 = NOTHING; sheet 2 0 1; sheet 3 1 1");
        r.bounds("reads %", 0, 3, "BAD");
        r.begin("flame 0 0 1; flame 0 0 1; set 0 1 119; set 1 1 7; sheet 0 1 0; reads 0 = NONE; sheet 0 1 1; reads 0 = 0; mark 0 0 119; reads 0 = NONE; mark 0 0 -1; reads 0 = 0; mark 0 0 NONE; reads 0 = NONE");
        r.go("sheet 0 1 3; mark 0 0 119; reads 0 = 1; mark 0 1 7; reads 0 = 2; mark 0 2 NONE; reads 0 = NONE; mark 0 1 NONE; reads 0 = NONE; mark 0 1 8; reads 0 = 1; mark 0 0 118; reads 0 = 0");
        r.go("set 0 2 0; mark 0 0 119; mark 0 1 7; reads 0 = NONE; flame 0 0 1; mark 0 2 0; reads 0 = NONE; sheet 1 0 24; mark 1 0 119; mark 1 1 7; reads 1 = 3");
        r.begin("sheet 0 0 1; reads 0 = 0; sheet 0 1 24; mark 0 0 NONE; reads 0 = 1; sheet 0 1 2; mark 0 0 NONE; mark 0 1 NONE; reads 0 = NONE");
    }

    static void promise31Copy(Rows r) {
        r.says("So many places of a SHEET come to another one (or the same), as they were: many. BAD; NOTHING; KIND: they are not of one sort; INDEX. (From a SHEET, its place, to a SHEET, its place.)");
        EdgesOfPromises1To21.busy(r);
        r.go("copy 2 0 0 0 0 = NOTHING; copy 0 0 2 0 0 = NOTHING; copy 2 0 3 0 0 = NOTHING; copy 2 -1 2 99 -1 = NOTHING; copy 0 0 1 0 0 = KIND; copy 1 0 0 0 0 = KIND; copy 1 99 0 -1 99 = KIND");
        r.go("sheet 2 0 5; sheet 3 0 2; mark 2 0 20; mark 2 1 21; mark 2 2 22; mark 2 3 23; mark 2 4 24; sheet 1 0 1");
        r.bounds("copy % 0 3 0 1", 0, 3, "BAD");
        r.bounds("copy 3 0 % 0 1", 0, 3, "BAD");
        r.bounds("copy 2 % 0 0 1", 0, 4, "INDEX");
        r.bounds("copy 2 % 0 0 3", 0, 2, "INDEX");
        r.bounds("copy 2 % 0 0 0", 0, 5, "INDEX");
        r.bounds("copy 2 0 0 % 1", 0, 2, "INDEX");
        r.bounds("copy 2 0 0 % 2", 0, 1, "INDEX");
        r.bounds("copy 2 0 0 % 0", 0, 3, "INDEX");
        r.bounds("copy 2 0 0 0 %", 0, 3, "INDEX");
        r.bounds("copy 0 0 2 0 %", 0, 3, "INDEX");
        r.bounds("copy 2 4 0 2 %", 0, 1, "INDEX");
        r.go("copy 2 1 0 1 MAX = INDEX; copy 2 MAX 0 0 1 = INDEX; copy 2 0 0 MAX 1 = INDEX; copy 2 MAX 0 MAX MAX = INDEX; copy 2 MIN 0 MIN MIN = INDEX; copy 2 0 0 0 0 = 0 same; copy 2 5 0 3 0 = 0 same");
        r.go("copy 2 2 0 0 3 = 3; lay 3 2 0; item 3 0 = 22; item 3 1 = 23; item 3 2 = 24; lay 3 2 2; item 3 2 = 22; item 3 4 = 24; copy 0 0 2 4 1 = 1; lay 3 2 2; item 3 4 = 22; item 3 3 = 23");
        r.begin("sheet 0 1 2; sheet 1 1 2; mark 0 0 NONE; mark 0 1 -99999; copy 0 0 1 0 2 = 2; lay 0 2 1; item 0 0 = KIND; item 0 1 = -99999; sheet 2 1 0; copy 2 0 1 0 0 = 0 same; copy 2 0 1 0 1 = INDEX");
        r.go("sheet 3 0 0; copy 2 0 3 0 0 = KIND; copy 3 0 3 0 0 = 0 same; copy 3 0 3 1 0 = INDEX; sheet 0 0 24; sheet 1 0 24; mark 0 23 7; copy 0 0 1 0 24 = 24; lay 0 2 1; item 0 23 = 7");
        r.bounds("copy 0 0 1 0 %", 0, 24, "INDEX");
    }

    static void promise31CopyOverItself(Rows r) {
        r.begin("sheet 0 0 5; mark 0 0 1; mark 0 1 2; mark 0 2 3; mark 0 3 4; mark 0 4 5; copy 0 0 0 0 5 = 5 same; copy 0 0 0 1 5 = INDEX; copy 0 1 0 0 5 = INDEX; copy 0 0 0 1 4 = 4; lay 0 2 0");
        r.go("item 0 0 = 1; item 0 1 = 1; item 0 2 = 2; item 0 3 = 3; item 0 4 = 4; copy 0 1 0 0 4 = 4; lay 0 2 0; item 0 0 = 1; item 0 1 = 2; item 0 2 = 3; item 0 3 = 4; item 0 4 = 4");
    }

    static void promise32Lay(Rows r) {
        r.says("A SLOT holds: thing 0 nothing, 1 FLAME k, 2 SHEET k, 3 the number k: what it held (0 .. 3). BAD: slot, thing, k; NOTHING: that SHEET is MISSING.");
        EdgesOfPromises1To21.busy(r);
        for (int thing = 0; thing < 4; thing++) {
            r.bounds("lay % " + thing + " 0", 0, 4, "BAD");
        }
        r.bounds("lay 0 % 0", 0, 3, "BAD");
        r.bounds("lay 0 1 %", 0, 2, "BAD");
        r.within("lay 0 2 %", 0, 1);
        r.go("lay 0 2 2 = NOTHING; lay 4 2 3 = NOTHING; lay 0 2 4 = BAD; lay 0 2 -1 = BAD; lay 0 2 MIN = BAD; lay 0 2 MAX = BAD; lay 5 2 2 = BAD; lay -1 2 2 = BAD; lay 0 4 MAX = BAD; lay 0 -1 0 = BAD");
        r.within("lay 0 0 %", Rows.MIN, -1, 4, 8, Rows.MAX);
        r.within("lay 0 3 %", Rows.MIN, -1, 4, 8, Rows.MAX);
        int held = 0;
        for (int was = 0; was < 4; was++) {
            for (int thing = 0; thing < 4; thing++) {
                r.go("lay 4 " + was + " 0 = " + held + "; lay 4 " + thing + " 1 = " + was);
                held = thing;
            }
        }
        r.go("rest 4 5 = 1; lay 4 1 3 = BAD; lay 4 2 3 = NOTHING; lay 4 0 9 = 3; lay 4 0 9 = 0 same; lay 0 0 0 = 1; lay 1 0 0 = 2; lay 2 0 0 = 3; lay 3 0 0 = 0 same");
    }

    static void promise33Ask(Rows r) {
        r.says("WORTH of the FLAME in a SLOT, taken for one of a KIND (0 .. 5). BAD; NOTHING; KIND: it is no FLAME, or not of that KIND, nor of one under it.");
        EdgesOfPromises1To21.busy(r);
        r.go("lay 3 1 2; lay 4 1 2");
        r.bounds("ask 3 %", 0, 5, "BAD");
        r.go("ask 5 0 = BAD; ask -1 0 = BAD; ask MAX 0 = BAD; ask MIN 0 = BAD; ask 5 6 = BAD; ask 4 0 = 4; ask 4 5 = 4; ask 4 1 = KIND; ask 0 0 = 7; ask 0 1 = 7; ask 0 3 = KIND; ask 0 2 = KIND");
        r.go("ask 1 0 = KIND; ask 1 6 = BAD; ask 2 0 = KIND; ask 2 -1 = BAD; lay 4 0 0; ask 4 0 = NOTHING; ask 4 5 = NOTHING; ask 4 6 = BAD; ask 4 -1 = BAD");
        int[] worths = {6, 10, 3, 20, 1, 36};
        String[] under = {"0", "01", "02", "013", "024", "05"};
        for (int kind = 0; kind < 6; kind++) {
            r.begin("flame " + kind + " 0 6; lay 0 1 0");
            for (int as = 0; as < 6; as++) {
                r.go("ask 0 " + as + " = " + (under[kind].indexOf('0' + as) >= 0 ? String.valueOf(worths[kind]) : "KIND"));
            }
        }
    }

    static void promise34Item(Rows r) {
        r.says("A place of the SHEET in a SLOT. BAD: slot; NOTHING; KIND: it is no SHEET; INDEX; KIND: NO NUMBER.");
        EdgesOfPromises1To21.busy(r);
        r.bounds("item 1 %", 0, 2, "INDEX");
        r.go("lay 4 2 1; item 4 0 = 0; item 4 1 = KIND; item 4 2 = INDEX; item 4 -1 = INDEX; item 5 0 = BAD; item -1 0 = BAD; item MIN -1 = BAD; item MAX 0 = BAD; item 3 0 = NOTHING; item 3 -1 = NOTHING");
        r.go("item 0 0 = KIND; item 0 -1 = KIND; item 2 0 = KIND; item 2 99 = KIND; sheet 2 0 0; lay 3 2 2; item 3 0 = INDEX; item 3 -1 = INDEX; lay 3 0 0; item 3 0 = NOTHING");
        r.go("sheet 3 1 24; mark 3 23 NONE; mark 3 22 -5; lay 3 2 3; item 3 22 = -5; item 3 23 = KIND; item 3 24 = INDEX");
    }

    static void promise35Rest(Rows r) {
        r.says("The rest of the number in a SLOT by n. BAD: slot; NOTHING; KIND: it is no number; NO: n is 0.");
        EdgesOfPromises1To21.busy(r);
        r.go("rest 5 0 = BAD; rest -1 1 = BAD; rest MIN 0 = BAD; rest MAX 1 = BAD; rest 4 0 = NOTHING; rest 4 1 = NOTHING; rest 0 0 = KIND; rest 0 1 = KIND; rest 1 0 = KIND; rest 1 1 = KIND; rest 2 0 = NO");
        r.go("rest 2 1 = 0; rest 2 -1 = 0; rest 2 3 = -1; rest 2 -3 = -1; rest 2 7 = 0; rest 2 8 = -7; rest 2 MAX = -7; rest 2 MIN = -7; lay 4 3 0; rest 4 0 = NO; rest 4 5 = 0; rest 4 MIN = 0");
        r.go("lay 4 3 MIN; rest 4 -1 = 0; rest 4 1 = 0; rest 4 MAX = -1; rest 4 MIN = 0; rest 4 10 = -8; rest 4 0 = NO; lay 4 3 MAX; rest 4 MIN = MAX; rest 4 -1 = 0; rest 4 10 = 7; rest 4 -10 = 7");
        r.go("lay 4 3 BAD; rest 4 MAX = BAD; lay 4 0 0; rest 4 1 = NOTHING");
    }

    static void promise36Tell(Rows r) {
        r.says("One more number waits: how many. FULL: 60 wait.");
        r.begin("flame 0 0 2; keep");
        for (int i = 1; i <= 60; i++) {
            r.go("tell " + (i % 24 == 0 ? 1 : 0) + " = " + i);
        }
        r.go("tell 0 = FULL; tell MIN = FULL; count 6 = 60; back; count 6 = 60; check 30 = 0; count 6 = 0; tell MIN = 1; tell MAX = 2; tell NONE = 3; count 6 = 3");
        EdgesOfPromises1To21.busy(r);
        r.go("tell 1 = 5; check 2 = 5; tell 1 = 1");
    }

    /** Of the image: 0 and 40 become 17 and 37, then 29 and 39, then 38 and 44. */
    static void two(Rows r) {
        r.begin("flame 0 0 5; flame 0 0 5; set 1 1 40; keep; run 3; deal 2");
    }

    static void promise37Check(Rows r) {
        r.says("The numbers that wait (none do then, whatever is answered) are THE TICKS TOLD of n (1 .. 30), two by two: 0; "
            + "else 1 and how many stand right ahead of the first that is not (or is missing, or one too many). BAD; NO: there is no IMAGE. (SPREAD is NONE, if no FLAME is LIT.)");
        two(r);
        r.bounds("check %", 1, 30, "BAD");
        for (String n : new String[] {"0", "31", "-1", "MIN", "MAX"}) {
            r.go("tell 20; tell 0; check " + n + " = BAD; count 6 = 0");
        }
        int[][] told = {{}, {20}, {20, 0}, {20, 0, 10}, {20, 0, 10, 0}, {20, 0, 10, 0, 6}, {20, 0, 10, 0, 6, 0}, {20, 0, 10, 0, 6, 0, 4}, {20, 0, 10, 0, 6, 0, 4, 0}, {19, 0, 10, 0, 6, 0},
            {20, 1, 10, 0, 6, 0}, {20, 0, 11, 0, 6, 0}, {20, 0, 10, -1, 6, 0}, {20, 0, 10, 0, 5, 0}, {20, 0, 10, 0, 6, 1}, {20, 0, 10, 0, 6, 1, 9}, {0, 20, 0, 10, 0, 6}, {20, 0, 10, 0, 6, 0, 0}};
        int[] due = {1, 2, 3, 4, 5, 6, 0, 7, 7, 1, 2, 3, 4, 5, 6, 6, 1, 7};
        for (int i = 0; i < told.length; i++) {
            two(r);
            for (int v : told[i]) {
                r.go("tell " + v);
            }
            r.go("check 3 = " + due[i] + "; count 6 = 0; count 2 = 3; count 0 = 4");
        }
        r.begin("tell 20; check 1 = NO; count 6 = 0; tell 20; check 31 = BAD; count 6 = 0; tell 1; check 0 = BAD; count 6 = 0; tell 1; check 30 = NO; count 6 = 0; check 1 = NO");
        r.begin("flame 0 0 2; keep");
        for (int i = 1; i <= 59; i++) {
            r.go("tell " + (i % 24 == 0 ? 1 : 0));
        }
        r.go("check 30 = 60; check 30 = 1");
        for (int i = 1; i <= 60; i++) {
            r.go("tell " + (i % 24 == 0 || i == 60 ? 1 : 0));
        }
        r.go("check 30 = 60");
        for (int i = 1; i <= 60; i++) {
            r.go("tell " + (i % 24 == 0 ? 1 : 0));
        }
        r.go("check 29 = 59; tell 0; tell 0; check 1 = 0; tell 0; tell 0; tell 0; check 1 = 3; tell NONE; tell 0; check 1 = 1; set 0 2 0; keep; tell NONE; tell 0; check 1 = 0");
        r.go("tell 0; tell 0; check 1 = 1; set 0 2 2; keep; tell NONE; tell 0; check 1 = 0; set 0 2 3; keep; tell 0; tell 0; check 1 = 0");
    }

    static void promise38Keep(Rows r) {
        r.says("AN IMAGE is kept: how many FLAMES.");
        r.begin("keep = 0; flame 0 0 1; keep = 1; flame 0 0 1; back = 1; deal 7; keep = 8; keep = 8 same; set 0 1 9; back = 8; told 0 4 = 0");
        EdgesOfPromises1To21.busy(r);
        r.go("keep = 3; told 0 4 = 119; count 6 = 4; count 7 = 8; count 2 = 2; keep = 3 same; back = 3 same; turns 0 4; keep = 3; turns 0 0; back = 3; told 0 0 = 4");
    }

    static void promise39Back(Rows r) {
        r.says("All is as THE IMAGE: how many FLAMES. NO: there is none.");
        r.begin("back = NO; flame 0 0 1; back = NO; count 0 = 1; keep = 1; back = 1 same; set 0 1 5; back = 1; told 0 4 = 0; deal 7; back = 1; count 0 = 1; told 1 0 = BAD; back = 1 same");
        EdgesOfPromises1To21.busy(r);
        r.go("back = 1; count 0 = 1; count 2 = 0; count 3 = 5; count 4 = 9; count 5 = 0; count 6 = 4; count 7 = 8; count 8 = 9; told 0 4 = 3; told 0 7 = 7; item 1 0 = 5; rest 2 4 = -3; ask 0 1 = 7");
    }

    static void promise40Count(Rows r) {
        r.says("How many: 0 FLAMES, 1 those that are LIT, 2 TICK, 3 NEAR, 4 FAR, 5 TEXTS, 6 numbers that wait, 7 bytes of THE TAPE, 8 z. BAD.");
        EdgesOfPromises1To21.busy(r);
        r.bounds("count %", 0, 8, "BAD");
        r.go("set 1 2 0; seed BAD; reach 0 11; reach 1 12");
        int[] due = {3, 2, 2, 11, 12, 2, 4, 8, Due.BAD};
        for (int what = 0; what < due.length; what++) {
            r.go("count " + what + " = " + due[what]);
        }
        r.go("deal 5; count 0 = 8; count 1 = 7");
    }

    static void calls512(Rows r) {
        r.says("An object is used for at most 512 calls after it has been made;");
        r.begin("flame 5 0 1");
        int z = 1;
        for (int i = 0; i < 508; i++) {
            r.go("run 60");
            for (int k = 0; k < 60 && 60 * i + k < 999; k++) {
                z = EdgesOfTicks.drawn(z);
            }
        }
        r.lastRow("count 2 = " + 508 * 60);
        r.lastRow("count 8 = " + z);
        r.lastRow("told 0 5 = 0");
    }
}
