/** The edges of the document's promises 1 to 21: flames and ticks. */
final class EdgesOfPromises1To21 {
    /** Of 99, the flame in a draught drew twice. */
    private static final int BUSY_Z = EdgesOfTicks.drawn(EdgesOfTicks.drawn(99));

    private EdgesOfPromises1To21() {
    }

    static void all(Rows r) {
        promise1ANewObject(r);
        promise2Flame(r);
        promise3Told(r);
        promise4As(r);
        promise5Turns(r);
        promise6Set(r);
        promise7Move(r);
        promise8Glass(r);
        promise9Reach(r);
        promise10Push(r);
        promise11Deal(r);
        promise12Seed(r);
        promise13Run(r);
        promise14Spread(r);
        promise15Groups(r);
        promise16Soon(r);
        promise17Period(r);
        promise18Film(r);
        promise19Basin(r);
        promise20Quiet(r);
        promise21Learn(r);
    }

    /** Three flames, the last in a draught; something of everything, so that refused calls have much that they might change. */
    static void busy(Rows r) {
        r.begin("flame 0 1010 5; set 0 1 3; seed 9; reach 0 5; keep; flame 1 1012 3; flame 5 1211 2; set 1 1 40; set 2 2 77; glass 0 2 1; reach 1 8; seed 99; run 2; set 0 1 119");
        r.go("sheet 0 0 3; mark 0 0 5; sheet 1 1 2; mark 1 1 NONE; lay 0 1 1; lay 1 2 0; lay 2 3 -7; tell 0; tell 0; tell 0; tell 0");
        r.text("pace 12-s", "0");
        r.text("join p/4", "1");
        r.tape("wind t-n");
    }

    static void promise1ANewObject(Rows r) {
        r.says("As told; no FLAMES.");
        r.begin("count 0 = 0; count 1 = 0; count 2 = 0; count 3 = 4; count 4 = 9; count 5 = 0; count 6 = 0; count 7 = 0; count 8 = 1; told 0 0 = BAD; spread = NONE; back = NO; text = -100");
        r.go("reads 0 = NOTHING; reads 3 = NOTHING; ask 0 0 = NOTHING; ask 4 0 = NOTHING; why 0 = NONE; why 1 = NONE; why 2 = NONE; textTold 0 0 = BAD; check 1 = NO");
        CandleTurns other = new CandleTurns();
        other.deal(8);
        other.tell(1);
        other.feed(1, 2, 3);
        other.sheet(0, 0, 3);
        other.lay(0, 3, 1);
        other.keep();
        r.go("count 0 = 0; count 6 = 0; count 7 = 0; reads 0 = NOTHING; ask 0 0 = NOTHING; back = NO");
    }

    static void promise2Flame(Rows r) {
        r.says("One more FLAME (place: 100 times x, and y): its number. BAD; FULL.");
        busy(r);
        r.bounds("flame % 1223 5", 0, 5, "BAD");
        r.bounds("flame 5 1223 %", 1, 9, "BAD");
        r.within("flame 5 % 9", 0, 29, 100, 129, 2829, 2900, 2929);
        for (int place : new int[] {-1, -99, -100, 30, 99, 130, 199, 2899, 2930, 2999, 3000, 3029, Rows.MIN, Rows.MAX}) {
            r.go("flame 5 " + place + " 9 = BAD");
        }
        r.go("flame 4 1203 7 = 3; told 3 0 = 4; told 3 1 = 12; told 3 2 = 3; told 3 3 = 7; told 3 4 = 0; told 3 5 = 999; told 3 6 = 0; count 0 = 4; count 1 = 4; count 8 = " + BUSY_Z);
        r.go("deal 4 = 4; flame 4 1203 7 = FULL; flame 4 30 7 = BAD; flame 6 1203 7 = BAD; flame 4 1203 0 = BAD; count 0 = 8");
    }

    static void promise3Told(Rows r) {
        r.says("Of a FLAME: what 0 KIND, 1 x, 2 y, 3 SIZE, 4 PHASE, 5 GAS, 6 how often it FLASHED so far, 7 PACE, 8 PUSHES, 9 WORTH. BAD.");
        busy(r);
        r.bounds("told % 0", 0, 2, "BAD");
        r.bounds("told 2 %", 0, 9, "BAD");
        r.go("told 3 10 = BAD");
        r.begin("flame 3 1203 4; flame 0 1205 5; set 0 1 118; set 1 1 38");
        int[] due = {3, 12, 3, 4, 118, 999, 0, 18, 10, 16};
        for (int what = 0; what < 10; what++) {
            r.go("told 0 " + what + " = " + due[what]);
        }
        r.go("run 1 = 1; told 0 4 = 39; told 0 5 = 995; told 0 6 = 1; glass 0 1 1; run 60; run 60; told 0 6 = 22; told 0 5 = 515; set 0 2 0; told 0 7 = 18; told 0 8 = 0; told 0 9 = 16; told 0 6 = 22");
    }

    static void promise4As(Rows r) {
        r.says("A FLAME as one of a KIND: SIZE. BAD: flame, kind; KIND: it is not of that KIND, nor of one under it.");
        busy(r);
        r.bounds("as % 0", 0, 2, "BAD");
        r.bounds("as 2 %", 0, 5, "BAD");
        r.go("as 3 6 = BAD; as 0 0 = 5; as 0 1 = KIND; as 1 0 = 3; as 1 1 = 3; as 1 3 = KIND; as 2 5 = 2; as 2 0 = 2; as 2 1 = KIND");
        r.go("turns 1 3; as 1 1 = 3; as 1 3 = 3; as 1 2 = KIND; turns 1 4; as 1 2 = 3; as 1 4 = 3; as 1 1 = KIND; set 1 0 9; as 1 4 = 9; set 1 2 0; as 1 4 = 9");
    }

    static void promise5Turns(Rows r) {
        r.says("A FLAME is of another KIND from now on: what it was. BAD.");
        busy(r);
        r.bounds("turns % 0", 0, 2, "BAD");
        r.bounds("turns 0 %", 0, 5, "BAD");
        r.go("turns 3 6 = BAD; turns 2 0 = 5; told 2 0 = 0; turns 2 5 = 0; told 2 0 = 5; turns 0 5 = 0; turns 0 0 = 5; told 0 3 = 5; told 0 4 = 119; told 1 0 = 1");
        r.go("turns 2 5 = 5 same; told 2 0 = 5");
    }

    static void promise6Set(Rows r) {
        r.says("SIZE (what 0), PHASE (1), GAS (2) of a FLAME becomes v: what it was. BAD.");
        busy(r);
        r.bounds("set % 1 1", 0, 2, "BAD");
        r.bounds("set 1 % 1", 0, 2, "BAD");
        r.bounds("set 2 0 %", 1, 9, "BAD");
        r.bounds("set 2 1 %", 0, 119, "BAD");
        r.bounds("set 2 2 %", 0, 999, "BAD");
        r.go("set 0 0 9 = 5; set 0 0 1 = 9; told 0 3 = 1; set 0 1 0 = 119; set 0 1 119 = 0; told 0 4 = 119; set 2 2 0 = 73; set 2 2 999 = 0; told 2 5 = 999; told 0 5 = 989; told 1 3 = 3");
        r.go("set 1 0 3 = 3 same; set 0 1 119 = 119 same; set 2 2 999 = 999 same; set 0 0 0 = BAD; set 0 1 120 = BAD; set 0 2 1000 = BAD");
    }

    static void promise7Move(Rows r) {
        r.says("A FLAME comes to a place (100 times x, and y): how far (x and y by which it differs, their signs left out, together). BAD.");
        busy(r);
        r.bounds("move % 1010", 0, 2, "BAD");
        r.within("move 0 %", 0, 29, 2900, 2929);
        for (int place : new int[] {-1, -100, 30, 99, 2930, 2999, 3000, 3029, Rows.MIN, Rows.MAX}) {
            r.go("move 2 " + place + " = BAD");
        }
        r.go("move 0 0 = 20; told 0 1 = 0; told 0 2 = 0; move 0 2929 = 58; move 0 0 = 58; move 0 29 = 29; move 0 2900 = 58; move 0 2900 = 0 same; move 0 1211 = 28; told 0 1 = 12; told 0 2 = 11");
        r.go("move 0 1312 = 2; move 0 1211 = 2; move 0 1112 = 2; move 0 1211 = 2; told 2 1 = 12; told 2 2 = 11");
    }

    static void promise8Glass(Rows r) {
        r.says("Between two FLAMES there is GLASS (v 1), or none (0): what it was. BAD: also one and itself.");
        busy(r);
        for (int flame : new int[] {-1, 3, 7, 8, Rows.MIN, Rows.MAX}) {
            r.go("glass " + flame + " 0 1 = BAD; glass 0 " + flame + " 1 = BAD; glass " + flame + " " + flame + " 0 = BAD");
        }
        for (int flame = 0; flame < 3; flame++) {
            r.go("glass " + flame + " " + flame + " 0 = BAD; glass " + flame + " " + flame + " 1 = BAD");
        }
        r.bounds("glass 0 1 %", 0, 1, "BAD");
        r.bounds("glass 2 0 %", 0, 1, "BAD");
        r.go("glass 0 2 1 = 1 same; glass 2 0 1 = 1 same; glass 0 1 0 = 0 same; glass 1 0 1 = 0; glass 0 1 1 = 1; glass 0 1 0 = 1; glass 1 0 0 = 0; glass 2 0 0 = 1; glass 0 2 0 = 0");
    }

    static void promise9Reach(Rows r) {
        r.says("NEAR (what 0), FAR (1) becomes v: what it was. BAD.");
        busy(r);
        r.bounds("reach % 7", 0, 1, "BAD");
        r.bounds("reach 0 %", 0, 59, "BAD");
        r.bounds("reach 1 %", 0, 59, "BAD");
        r.go("reach 2 60 = BAD; reach 0 59 = 5; reach 1 0 = 8; count 3 = 59; count 4 = 0; reach 0 0 = 59; reach 1 59 = 0; count 3 = 0; count 4 = 59; reach 0 0 = 0 same");
    }

    static void promise10Push(Rows r) {
        r.says("PUSH on one by another one. BAD: also one and itself.");
        busy(r);
        for (int flame = 0; flame < 3; flame++) {
            r.go("push " + flame + " " + flame + " = BAD");
        }
        for (int flame : new int[] {-1, 3, 7, 8, Rows.MIN, Rows.MAX}) {
            r.go("push " + flame + " 0 = BAD; push 0 " + flame + " = BAD; push " + flame + " " + flame + " = BAD");
        }
        r.go("push 0 2 = 0; glass 0 2 0; set 0 1 0; set 2 1 40; push 0 2 = 10; push 2 0 = -10; set 2 2 0; push 0 2 = 0; push 2 0 = 0");
    }

    static void promise11Deal(Rows r) {
        r.says("FLAMES are drawn, n (1 .. 8) of them, as many as there is room for (no draws for others): how many came. BAD.");
        busy(r);
        r.bounds("deal %", 1, 8, "BAD");
        for (int there = 0; there <= 8; there++) {
            for (int n : new int[] {1, 2, 7, 8}) {
                int came = Math.min(n, 8 - there);
                int z = 31;
                for (int i = 0; i < 5 * came; i++) {
                    z = EdgesOfTicks.drawn(z);
                }
                r.begin(there > 0 ? "deal " + there : "", "seed 31; deal " + n + " = " + came + (came == 0 ? " same" : "") + "; count 0 = " + (there + came) + "; count 8 = " + z);
            }
        }
        r.go("deal 9 = BAD; deal 0 = BAD");
    }

    static void promise12Seed(Rows r) {
        r.says("z becomes v: what it was.");
        busy(r);
        r.go("seed 0 = " + BUSY_Z + "; seed -1 = 0; seed MAX = -1; seed MIN = MAX; seed BAD = MIN; count 8 = BAD; seed NONE = BAD; count 8 = NONE; seed 7 = NONE; seed 7 = 7 same");
    }

    static void promise13Run(Rows r) {
        r.says("n (1 .. 60) TICKS go by: how many FLASHED, together (one as often as it did). BAD.");
        busy(r);
        r.bounds("run %", 1, 60, "BAD");
        r.begin("flame 0 0 2; flame 0 2929 2; flame 0 2900 4; set 1 1 110; run 1 = 1; run 11 = 1; run 12 = 3; run 60 = 14; told 0 6 = 7; told 1 6 = 7; told 2 6 = 5; count 2 = 84; told 2 5 = 663");
        r.begin("run 60 = 0; run 1 = 0; count 2 = 61");
        r.begin("flame 3 0 1");
        r.text("pace 40", "0");
        r.go("run 60 = 42; told 0 6 = 42; told 0 4 = 60");
    }

    static void promise14Spread(Rows r) {
        r.says("SPREAD. NONE: no FLAME is LIT.");
        busy(r);
        r.go("set 1 1 10; set 2 1 50; spread = 51; set 2 2 0; set 1 1 119; spread = 0; set 1 2 0; spread = 0; set 0 2 0; spread = NONE; set 2 2 1; spread = 0; set 0 2 1; set 0 1 0; set 2 1 60; spread = 60");
    }

    static void promise15Groups(Rows r) {
        r.says("GROUPS for w (0 .. 119). BAD.");
        busy(r);
        r.bounds("groups %", 0, 119, "BAD");
        r.go("set 0 1 0; set 1 1 1; set 2 1 0; groups 0 = 2; groups 1 = 1; groups 118 = 1; groups 119 = 1");
    }

    static void promise16Soon(Rows r) {
        r.says("SOON for w (0 .. 119). BAD; NONE: it is never so (without LIT FLAMES it is not so).");
        busy(r);
        r.bounds("soon %", 0, 119, "BAD");
        r.go("set 0 2 0; set 1 2 0; set 2 2 0; soon 0 = NONE; soon 119 = NONE; soon 120 = BAD; soon -1 = BAD; set 2 2 1; soon 0 = 0");
        r.begin("flame 4 0 1; flame 4 2929 1; set 1 1 1; soon 0 = NONE; soon 1 = 0; soon 119 = 0; set 0 2 1; set 1 2 1; soon 0 = NONE; soon 1 = 0");
    }

    static void promise17Period(Rows r) {
        r.says("PERIOD. NONE: it is never so.");
        busy(r);
        r.go("period = NONE; set 0 2 0; set 1 2 0; set 2 2 0; period = 1");
        r.begin("period = 1; flame 0 0 2; period = 12; set 0 2 1; period = NONE; set 0 2 0; period = 1");
    }

    static void promise18Film(Rows r) {
        r.says("FILM of a FLAME by k (1 .. 60). BAD.");
        busy(r);
        r.bounds("film % 1", 0, 2, "BAD");
        r.bounds("film 2 %", 1, 60, "BAD");
        r.go("film 3 61 = BAD; film 3 0 = BAD; set 0 2 0; set 1 2 0; set 2 2 0; film 0 1 = 0; film 2 60 = 0");
    }

    static void promise19Basin(Rows r) {
        r.says("BASIN for w (0 .. 119). BAD; NO: there are not two LIT FLAMES.");
        busy(r);
        r.bounds("basin %", 0, 119, "BAD");
        r.go("set 0 2 0; basin 119 = 36; set 1 2 0; basin 119 = NO; basin 120 = BAD; basin -1 = BAD; set 2 2 0; basin 0 = NO; basin 120 = BAD; set 0 2 999; set 2 2 999; basin 119 = 36");
        r.begin("basin 0 = NO; basin 120 = BAD; flame 0 0 1; basin 0 = NO; basin -1 = BAD; flame 0 0 1; basin 60 = 36");
    }

    static void promise20Quiet(Rows r) {
        r.says("QUIET for a FLAME: what 0 the SPREAD (NONE: none is LIT then), 1 the place (100 times x, and y). BAD. (Where none is LIT then, SPREAD counts as 120.)");
        busy(r);
        r.bounds("quiet % 0", 0, 2, "BAD");
        r.bounds("quiet % 1", 0, 2, "BAD");
        r.bounds("quiet 2 %", 0, 1, "BAD");
        r.go("quiet 3 2 = BAD; set 0 2 0; set 1 2 0; set 2 2 0; quiet 0 0 = NONE; quiet 0 1 = 707; quiet 2 0 = NONE; quiet 2 1 = 908; set 2 2 20; quiet 2 0 = NONE; quiet 2 1 = 908");
        r.go("set 2 2 21; quiet 2 0 = 0; quiet 2 1 = 908; move 2 102; quiet 2 1 = 0; move 2 2829; quiet 2 1 = 2526; quiet 0 0 = 0");
    }

    static void promise21Learn(Rows r) {
        r.says("LEARNT of a SHEET, for a FLAME: NEAR. BAD; NOTHING.");
        busy(r);
        r.go("learn 2 0 = NOTHING; learn 3 2 = NOTHING; learn 2 3 = BAD; learn 2 -1 = BAD; learn 4 0 = BAD; learn -1 0 = BAD; learn 4 3 = BAD");
        r.go("sheet 2 0 1; sheet 3 1 1");
        r.bounds("learn % 0", 0, 3, "BAD");
        r.bounds("learn 0 %", 0, 2, "BAD");
        r.go("sheet 0 -1 0; learn 0 0 = NOTHING");
    }
}
