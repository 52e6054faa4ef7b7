/** The edges of the document's 'Terms', ahead of its parts and in part 1, FLAMES. */
final class EdgesOfFlames {
    private static final int[] NO_PLACES = {-1, -30, -100, -101, -2929, -3000, 30, 99, 130, 1030, 2930, 2999, 3000, 3029, 3030, 9900, 10000, Rows.MIN, Rows.MAX};

    private EdgesOfFlames() {
    }

    static void all(Rows r) {
        numbersAreWhole(r);
        ofSeveralTheFirst(r);
        ofSeveralTheFirstWithSheets(r);
        thereIsNone(r);
        eightFlames(r);
        places(r);
        sizesPhasesGas(r);
        kinds(r);
        litAboveZero(r);
        reaches(r);
        glass(r);
        paces(r);
        worths(r);
        noPushes(r);
        pushesByDistance(r);
        pushesByPhase(r);
        pushesByLaw(r);
        pushesTogether(r);
        turned(r);
    }

    static void numbersAreWhole(Rows r) {
        r.says("All numbers are whole; / cuts towards 0.");
        r.begin("flame 0 0 1; flame 2 0 1; set 0 1 11");
        r.go("push 0 1 = -2; push 1 0 = 2; told 1 7 = 5");
        r.go("move 1 5; push 0 1 = 2; push 1 0 = -2");
        r.text("pace (0-7)/2+9", "0");
        r.go("told 0 7 = 6; lay 0 3 -7; rest 0 2 = -1; rest 0 -2 = -1; lay 0 3 7; rest 0 -2 = 1");
    }

    static void ofSeveralTheFirst(Rows r) {
        r.says("A call that is refused answers one of BAD, NO, FULL, or a FINDING, of several the one that stands first with it, and changes nothing "
            + "(but the tape and the numbers that wait, where told).");
        r.begin("deal 8 = 8; flame 0 0 1 = FULL; flame 6 0 1 = BAD; flame 0 30 1 = BAD; flame 0 0 10 = BAD");
        r.begin("flame 0 0 1; as 1 6 = BAD; as 1 1 = BAD; as 0 6 = BAD; as 0 1 = KIND");
        r.go("basin 0 = NO; basin 120 = BAD; basin -1 = BAD");
        r.go("learn 0 0 = NOTHING; learn 0 1 = BAD; learn 4 0 = BAD; learn 4 1 = BAD");
        r.go("tell 0; check 1 = NO; tell 0; check 31 = BAD; tell 0; check 0 = BAD");
        r.begin();
        for (int i = 0; i < 14; i++) {
            r.text("join " + i, String.valueOf(i));
        }
        r.text("join 14", "FULL");
        r.text("join 14)", "-107");
        r.text("", "-100");
    }

    static void ofSeveralTheFirstWithSheets(Rows r) {
        r.begin("sheet 4 0 -1 = BAD; sheet 0 2 -1 = BAD; sheet 0 -2 -1 = BAD; sheet 0 0 -1 = SIZE");
        r.go("mark 4 -1 NONE = BAD; mark 0 -1 NONE = NOTHING; sheet 0 0 1; mark 0 1 NONE = INDEX; mark 0 0 NONE = KIND");
        r.go("mark 1 1 100000 = NOTHING; sheet 1 1 1; mark 1 1 100000 = INDEX; mark 1 0 100000 = BAD");
        r.go("copy 4 9 2 9 9 = BAD; copy 2 9 4 9 9 = BAD; copy 0 9 2 9 9 = NOTHING; copy 2 9 0 9 9 = NOTHING; copy 0 9 1 9 9 = KIND; copy 0 9 0 9 9 = INDEX");
        r.go("lay 5 2 2 = BAD; lay 0 4 2 = BAD; lay 0 2 4 = BAD; lay 0 2 2 = NOTHING; lay 5 4 9 = BAD");
        r.go("ask 5 6 = BAD; ask 5 0 = BAD; ask 0 6 = BAD; ask 0 0 = NOTHING; item 5 -1 = BAD; item 0 -1 = NOTHING; rest 5 0 = BAD; rest 0 0 = NOTHING");
        r.go("lay 0 3 1; ask 0 6 = BAD; ask 0 0 = KIND; item 0 -1 = KIND; lay 0 2 0; rest 0 0 = KIND; ask 0 6 = BAD");
        r.go("mark 1 0 NONE; lay 0 2 1; item 0 1 = INDEX; item 0 0 = KIND");
    }

    static void thereIsNone(Rows r) {
        r.says("NONE: there is none.");
        r.begin("spread = NONE; soon 119 = NONE; why 0 = NONE; why 1 = NONE; why 2 = NONE; sheet 0 0 0; reads 0 = NONE");
        r.go("flame 0 0 1; set 0 2 0; spread = NONE; quiet 0 0 = NONE; soon 0 = NONE");
        r.begin("flame 0 0 5; set 0 2 5; period = NONE");
    }

    static void eightFlames(Rows r) {
        r.says("FLAMES, 8 at most, numbered from 0,");
        r.begin("count 0 = 0");
        for (int i = 0; i < 8; i++) {
            r.go("told " + i + " 3 = BAD; flame 0 0 " + (i + 1) + " = " + i + "; told " + i + " 3 = " + (i + 1) + "; count 0 = " + (i + 1));
        }
        r.go("told -1 3 = BAD; told 8 3 = BAD; flame 0 0 9 = FULL; told 8 3 = BAD; count 0 = 8; told 0 3 = 1; told 7 3 = 8");
        r.begin("deal 7 = 7; flame 0 0 1 = 7; flame 0 0 1 = FULL; deal 1 = 0 same; deal 8 = 0 same");
    }

    static void places(Rows r) {
        r.says("each at a place x, y (0 .. 29 each; several may be at one),");
        int[] corners = {0, 29, 2900, 2929};
        r.begin();
        for (int i = 0; i < 4; i++) {
            r.go("flame 0 " + corners[i] + " 1 = " + i + "; told " + i + " 1 = " + corners[i] / 100 + "; told " + i + " 2 = " + corners[i] % 100);
        }
        r.go("flame 0 2929 1 = 4; flame 0 2929 1 = 5; told 4 1 = 29; told 5 2 = 29");
        for (int place : NO_PLACES) {
            r.go("flame 0 " + place + " 1 = BAD; move 0 " + place + " = BAD");
        }
        for (int i = 0; i < 4; i++) {
            r.go("move 5 " + corners[i] + "; told 5 1 = " + corners[i] / 100 + "; told 5 2 = " + corners[i] % 100);
        }
        r.go("move 5 0 = 58; move 4 0; move 3 0; move 2 0 = 29; move 1 0 = 29; flame 0 0 1 = 6; flame 0 0 1 = 7");
    }

    static void sizesPhasesGas(Rows r) {
        r.says("of a SIZE 1 .. 9,");
        r.begin("flame 0 0 1 = 0; told 0 3 = 1; flame 0 0 9 = 1; told 1 3 = 9");
        r.bounds("flame 0 0 %", 1, 9, "BAD");
        r.bounds("set 0 0 %", 1, 9, "BAD");
        r.go("set 0 0 9 = 1; told 0 3 = 9; set 0 0 1 = 9; told 0 3 = 1");
        r.says("with a PHASE 0 .. 119 (0 at first),");
        r.begin("flame 0 0 1; told 0 4 = 0");
        r.bounds("set 0 1 %", 0, 119, "BAD");
        r.go("set 0 1 119 = 0; told 0 4 = 119; set 0 1 0 = 119; told 0 4 = 0; set 0 1 77");
        r.go("keep; set 0 1 5; flame 0 0 1 = 1; set 1 1 99; back; flame 0 0 1 = 1; told 0 4 = 77; told 1 4 = 0");
        r.says("GAS 0 .. 999 (999 at first),");
        r.begin("flame 0 0 1; told 0 5 = 999");
        r.bounds("set 0 2 %", 0, 999, "BAD");
        r.go("set 0 2 0 = 999; told 0 5 = 0; set 0 2 999 = 0; told 0 5 = 999; deal 1 = 1; told 1 5 = 999");
        r.go("keep; flame 0 0 1 = 2; set 2 2 3; back; flame 0 0 1 = 2; told 2 5 = 999; told 2 6 = 0");
    }

    static void kinds(Rows r) {
        r.says("and of a KIND: 0 FLAME; 1 ALONG, 2 AGAINST, 5 DRAUGHTY, under FLAME; 3 ROUND, under ALONG; 4 STILL, under AGAINST (all are FLAMES).");
        String[] under = {"0", "01", "02", "013", "024", "05"};
        r.begin();
        for (int kind = 0; kind < 6; kind++) {
            r.go("flame " + kind + " 0 " + (kind + 3) + " = " + kind + "; told " + kind + " 0 = " + kind);
            for (int as = 0; as < 6; as++) {
                r.go("as " + kind + " " + as + " = " + (under[kind].indexOf('0' + as) >= 0 ? String.valueOf(kind + 3) : "KIND"));
            }
        }
        r.bounds("flame % 0 1", 0, 5, "BAD");
        r.bounds("turns 0 %", 0, 5, "BAD");
        r.bounds("as 5 %", 0, 5, "BAD");
        r.go("lay 0 1 5");
        r.bounds("ask 0 %", 0, 5, "BAD");
    }

    static void litAboveZero(Rows r) {
        r.says("LIT is one with GAS above 0.");
        r.begin("flame 0 0 5; flame 0 0 5; set 1 1 40; count 1 = 2; set 1 2 1; count 1 = 2; spread = 40; push 0 1 = 10; push 1 0 = -10");
        r.go("set 1 2 0; count 1 = 1; spread = 0; push 0 1 = 0; push 1 0 = 0; basin 0 = NO; run 1; told 1 4 = 40; told 0 4 = 7");
        r.go("set 1 2 1; count 1 = 2; run 1; count 1 = 1; told 1 5 = 0");
    }

    static void reaches(Rows r) {
        r.says("REACHES are NEAR 0 .. 59 (4 at first) and FAR 0 .. 59 (9 at first).");
        r.begin("count 3 = 4; count 4 = 9");
        r.bounds("reach 0 %", 0, 59, "BAD");
        r.bounds("reach 1 %", 0, 59, "BAD");
        r.go("reach 0 59 = 4; count 3 = 59; count 4 = 9; reach 0 0 = 59; count 3 = 0; reach 1 59 = 9; count 4 = 59; count 3 = 0; reach 1 0 = 59; count 4 = 0");
        r.begin("flame 0 0 1; flame 0 2929 1; set 1 1 40; push 0 1 = 0; reach 1 58; push 0 1 = -10; reach 1 57; push 0 1 = 0; reach 0 58; push 0 1 = 10; reach 0 57; push 0 1 = 0");
        r.begin("flame 0 0 1; flame 0 0 1; set 1 1 40; reach 0 0; reach 1 0; push 0 1 = 10; move 1 1; push 0 1 = 0");
    }

    static void glass(Rows r) {
        r.says("Between two FLAMES there may be GLASS (none at first).");
        r.begin("deal 8 = 8");
        for (int i = 0; i < 8; i++) {
            for (int k = 0; k < i; k++) {
                r.go("glass " + i + " " + k + " 0 = 0");
            }
        }
        for (int i = 0; i < 8; i++) {
            for (int k = 0; k < i; k++) {
                r.go("glass " + i + " " + k + " 1 = 0; glass " + k + " " + i + " 1 = 1");
            }
        }
        r.go("glass 7 0 0 = 1; glass 0 7 1 = 0; glass 6 7 0 = 1; glass 7 6 0 = 0; glass 7 5 0 = 1");
        r.says("Between two FLAMES there may be GLASS (none at first).");
        r.begin("flame 0 0 1; keep; flame 0 0 1; set 1 1 40; glass 0 1 1 = 0; push 0 1 = 0; back; flame 0 0 1; set 1 1 40; push 0 1 = 10; glass 0 1 0 = 0 same");
    }

    static void paces(Rows r) {
        r.says("PACE: FLAME: what pace gives, held within 0 .. 40 (without a TEXT: 12 less SIZE).");
        r.begin("flame 0 0 1");
        for (int size = 1; size <= 9; size++) {
            r.go("set 0 0 " + size + "; told 0 7 = " + (12 - size));
        }
        String[] laws = {"0-1", "0", "1", "39", "40", "41", "9999", "0-9999", "9999*9999*9999", "0-9999*9999*9", "9999*9999*21"};
        int[] held = {0, 0, 1, 39, 40, 40, 40, 0, 0, 0, 40};
        int[] along = {1, 1, 2, 40, 41, 41, 41, 1, 1, 1, 41};
        int[] against = {0, 0, 0, 19, 20, 20, 20, 0, 0, 0, 20};
        int[] round = {2, 2, 4, 80, 82, 82, 82, 2, 2, 2, 82};
        int[] draughty = {2, 2, 3, 41, 42, 42, 42, 2, 2, 2, 42};
        r.says("ALONG: as FLAME, and 1. ROUND: twice as ALONG. AGAINST: half (cut) of as FLAME. STILL: 0. DRAUGHTY: as FLAME, and 2.");
        for (int i = 0; i < laws.length; i++) {
            r.begin("flame 0 0 1; flame 1 0 1; flame 2 0 1; flame 3 0 1; flame 4 0 1; flame 5 0 1");
            r.text("pace " + laws[i], "0");
            r.go("told 0 7 = " + held[i] + "; told 1 7 = " + along[i] + "; told 2 7 = " + against[i] + "; told 3 7 = " + round[i] + "; told 4 7 = 0; told 5 7 = " + draughty[i]);
        }
        r.begin("flame 1 0 1; flame 2 0 1; flame 3 0 1; flame 4 0 1; flame 5 0 1; flame 2 0 2");
        r.go("told 0 7 = 12; told 1 7 = 5; told 2 7 = 24; told 3 7 = 0; told 4 7 = 13; told 5 7 = 5; set 5 0 9; told 5 7 = 1; set 5 2 0; told 5 7 = 1");
        r.go("set 0 0 9; told 0 7 = 4; set 2 0 9; told 2 7 = 8; set 3 0 9; told 3 7 = 0; set 4 0 9; told 4 7 = 5");
    }

    static void worths(Rows r) {
        r.says("WORTH: FLAME: SIZE. ALONG: as FLAME, and 4. ROUND: twice as ALONG. AGAINST: 9 less SIZE. STILL: as AGAINST, less 2. DRAUGHTY: SIZE times SIZE.");
        int[][] due = {{1, 5, 9}, {5, 9, 13}, {8, 4, 0}, {10, 18, 26}, {6, 2, -2}, {1, 25, 81}};
        int[] sizes = {1, 5, 9};
        for (int kind = 0; kind < 6; kind++) {
            r.begin("flame " + kind + " 0 1");
            for (int i = 0; i < 3; i++) {
                r.go("set 0 0 " + sizes[i] + "; told 0 9 = " + due[kind][i] + "; lay 0 1 0; ask 0 0 = " + due[kind][i]);
            }
        }
        r.says("(A KIND that is not named does as the one above it.)");
        r.begin("flame 3 0 9; flame 4 0 9; told 0 9 = 26; told 1 9 = -2; turns 0 1 = 3; told 0 9 = 13; turns 1 2 = 4; told 1 9 = 0; turns 0 0 = 1; told 0 9 = 9");
    }

    static void noPushes(Rows r) {
        r.says("PUSH on one by another one: 0, if one of them is not LIT, or there is GLASS between them;");
        r.begin("flame 0 0 1; flame 0 0 1; flame 0 0 1; set 1 1 40; set 2 1 40");
        r.go("push 0 1 = 10; glass 0 1 1; push 0 1 = 0; push 1 0 = 0; push 0 2 = 10; push 2 0 = -10; glass 1 0 0; push 0 1 = 10");
        r.go("set 1 2 0; push 0 1 = 0; push 1 0 = 0; push 0 2 = 10; set 1 2 1; push 0 1 = 10; push 1 0 = -10; set 0 2 0; push 0 1 = 0; push 1 0 = 0");
        r.text("join 7", "0");
        r.go("push 0 1 = 0; push 1 0 = 0; set 0 2 1; push 0 1 = 7; push 1 0 = 7; glass 1 0 1; push 0 1 = 0; push 1 0 = 0; push 2 0 = 7");
    }

    static void pushesByDistance(Rows r) {
        r.says("else, with d (x and y by which they differ, their signs left out, together)");
        r.begin("flame 0 1010 1; flame 0 1010 1");
        r.text("join d", "0");
        int[][] ways = {{1010, 0}, {1011, 1}, {1110, 1}, {1009, 1}, {910, 1}, {1111, 2}, {909, 2}, {911, 2}, {1109, 2}, {1, 19}, {0, 20}, {1020, 10}, {2010, 10}};
        for (int[] way : ways) {
            r.go("move 1 " + way[0] + "; push 0 1 = " + way[1] + "; push 1 0 = " + way[1]);
        }
        r.begin("flame 0 0 1; flame 0 2929 1");
        r.text("join d-40", "0");
        r.go("push 0 1 = 18; push 1 0 = 18");
        r.says("(without a TEXT: p / 4, if d is not above NEAR; else - p / 4, if d is not above FAR; else 0).");
        r.begin("flame 0 0 1; flame 0 4 1; set 1 1 40");
        r.go("push 0 1 = 10; move 1 5; push 0 1 = -10; move 1 9; push 0 1 = -10; move 1 10; push 0 1 = 0");
        r.go("move 1 400; push 0 1 = 10; move 1 203; push 0 1 = -10; move 1 504; push 0 1 = -10; move 1 505; push 0 1 = 0");
        r.go("reach 0 10; push 0 1 = 10; reach 1 3; push 0 1 = 10; reach 0 9; push 0 1 = 0; reach 1 10; push 0 1 = -10; reach 1 9; push 0 1 = 0");
    }

    static void pushesByPhase(Rows r) {
        r.says("and p (the other's PHASE less its own, 120 more or less, so that it is -60 .. 59):");
        r.begin("flame 0 0 1; flame 0 0 1");
        int[] own = {0, 0, 0, 0, 119, 119, 119, 60, 61, 59, 60, 30, 90, 100, 20};
        int[] its = {59, 60, 61, 119, 0, 58, 59, 0, 0, 119, 119, 90, 30, 20, 100};
        int[] due = {14, -15, -14, 0, 0, 14, -15, -15, 14, -15, 14, -15, -15, 10, -10};
        for (int i = 0; i < own.length; i++) {
            r.go("set 0 1 " + own[i] + "; set 1 1 " + its[i] + "; push 0 1 = " + due[i]);
        }
        r.begin("flame 0 0 1; flame 0 0 1");
        r.text("join p-45", "0");
        r.go("set 1 1 59; push 0 1 = 14; set 1 1 58; push 0 1 = 13; set 1 1 60; push 0 1 = -20");
        r.text("join p+45", "1");
        r.go("push 0 1 = -15; set 1 1 61; push 0 1 = -14; set 1 1 59; push 0 1 = 20; set 0 1 119; set 1 1 59; push 0 1 = -15; push 1 0 = -15");
    }

    static void pushesByLaw(Rows r) {
        r.says("what join gives, held within -20 .. 20");
        String[] laws = {"19", "20", "21", "9999", "0-19", "0-20", "0-21", "0-9999", "9999*9999*9999", "0-9999*9999*9", "9999*9999*21"};
        int[] due = {19, 20, 20, 20, -19, -20, -20, -20, -20, -20, 20};
        for (int i = 0; i < laws.length; i++) {
            r.begin("flame 0 0 1; flame 0 2929 1");
            r.text("join " + laws[i], "0");
            r.go("push 0 1 = " + due[i] + "; told 0 8 = " + due[i]);
        }
    }

    static void pushesTogether(Rows r) {
        r.says("PUSHES on one: by all others, together.");
        r.begin("flame 0 0 1; told 0 8 = 0");
        r.text("join 20", "0");
        for (int others = 1; others < 8; others++) {
            r.go("flame 0 0 1; told 0 8 = " + 20 * others + "; told " + others + " 8 = " + 20 * others);
        }
        r.go("set 3 2 0; told 0 8 = 120; told 3 8 = 0; glass 0 7 1; told 0 8 = 100; told 7 8 = 100; told 1 8 = 120");
        r.text("join 0-20", "1");
        r.go("told 1 8 = -120; told 0 8 = -100; set 3 2 999; told 1 8 = -140");
    }

    /** What pushes of -20 to 20 make of phase 60, without pace (as ALONG: 1, as ROUND: 2, as DRAUGHTY: 2) and with a wind of 7. */
    static void turned(Rows r) {
        r.says("TURNED are these: FLAME: as they are. ALONG: twice as FLAME. ROUND: as ALONG, and 3. AGAINST: as FLAME, with the other sign. "
            + "STILL: as AGAINST; 0, if that is -4 .. 4. DRAUGHTY: as FLAME, and the WIND.");
        int[] pushes = {-20, -5, -4, -1, 0, 1, 4, 5, 20};
        int[][] due = {
            {40, 55, 56, 59, 60, 61, 64, 65, 80},
            {21, 51, 53, 59, 61, 63, 69, 71, 101},
            {80, 65, 64, 61, 60, 59, 56, 55, 40},
            {25, 55, 57, 63, 65, 67, 73, 75, 105},
            {80, 65, 60, 60, 60, 60, 60, 55, 40},
            {49, 64, 65, 68, 69, 70, 73, 74, 89}};
        for (int kind = 0; kind < 6; kind++) {
            for (int i = 0; i < pushes.length; i++) {
                r.begin("flame " + kind + " 0 1; flame 0 0 1; set 0 1 60");
                r.text("pace 0", "0");
                r.text("join " + (pushes[i] < 0 ? "0-" + -pushes[i] : String.valueOf(pushes[i])), "1");
                r.text("wind 7", "2");
                r.go("told 0 8 = " + pushes[i] + "; run 1 = 0; told 0 4 = " + due[kind][i]);
            }
        }
    }
}
