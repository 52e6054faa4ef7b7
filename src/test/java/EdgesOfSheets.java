/** The edges of the document's 'Terms', part 5, SHEETS, SLOTS, FINDINGS, AN IMAGE, THE TICKS TOLD. */
final class EdgesOfSheets {
    private static final String ALL_SHEETS = "sheet 0 0 2; sheet 1 0 2; sheet 2 0 2; sheet 3 0 2";

    private EdgesOfSheets() {
    }

    static void all(Rows r) {
        sheets(r);
        places(r);
        noNumbers(r);
        slots(r);
        slotsAreAsThen(r);
        findings(r);
        whatImagesKeep(r);
        whatImagesDoNotKeep(r);
        againAndAgain(r);
        ticksTold(r);
    }

    static void sheets(Rows r) {
        r.says("SHEETS 0 .. 3 are rows of shorts (sort 0) or floats (1; whole numbers), with 0 to 24 places, or MISSING (at first).");
        r.begin("flame 0 0 1");
        for (int sheet = 0; sheet < 4; sheet++) {
            r.go("reads " + sheet + " = NOTHING; pour " + sheet + " = NOTHING; mark " + sheet + " 0 0 = NOTHING; lay 0 2 " + sheet + " = NOTHING; learn " + sheet + " 0 = NOTHING");
            r.go("copy " + sheet + " 0 " + sheet + " 0 0 = NOTHING");
        }
        r.go(ALL_SHEETS);
        for (String call : new String[] {"sheet % 0 1", "sheet % 1 1", "sheet % -1 0", "mark % 0 7", "pour %", "reads %", "copy % 0 0 0 1", "copy 0 0 % 0 1", "lay 0 2 %", "learn % 0"}) {
            r.bounds(call, 0, 3, "BAD");
        }
        r.bounds("sheet 0 % 1", -1, 1, "BAD");
        r.go("sheet 0 -1 0; reads 0 = NOTHING; reads 1 = 1; sheet 3 -1 9 = 0; reads 3 = NOTHING; lay 0 2 3 = NOTHING; reads 2 = 1");
    }

    static void places(Rows r) {
        for (int sort = 0; sort < 2; sort++) {
            r.begin("sheet 0 " + sort + " 0 = 0; reads 0 = NONE; pour 0 = 0 same; mark 0 0 1 = INDEX; lay 0 2 0; item 0 0 = INDEX; item 0 -1 = INDEX; copy 0 0 0 0 0 = 0 same");
            r.go("copy 0 0 0 0 1 = INDEX; sheet 0 " + sort + " 25 = BAD; sheet 0 " + sort + " -1 = SIZE; sheet 0 " + sort + " MIN = SIZE; sheet 0 " + sort + " MAX = BAD");
            r.go("sheet 0 " + sort + " 1 = 1; mark 0 0 5 = 1; mark 0 1 5 = INDEX; mark 0 -1 5 = INDEX; lay 0 2 0; item 0 0 = 5; item 0 1 = INDEX; item 0 -1 = INDEX");
            r.go("sheet 0 " + sort + " 25 = BAD; sheet 0 " + sort + " -1 = SIZE; sheet 0 " + sort + " 24 = 24; mark 0 23 9 = 1; mark 0 24 9 = INDEX; lay 0 2 0; item 0 23 = 9; item 0 24 = INDEX");
            r.go("item 0 0 = 0; sheet 0 " + sort + " 24 = 24; lay 0 2 0; item 0 23 = 0; item 0 22 = 0");
        }
    }

    static void noNumbers(Rows r) {
        r.says("A place of floats may be NO NUMBER.");
        r.begin("flame 0 0 1; flame 0 0 1; sheet 0 1 2; mark 0 0 NONE = 1; mark 0 1 NONE = 1; reads 0 = NONE; pour 0 = 0 same; learn 0 0 = 0; lay 0 2 0; item 0 0 = KIND; item 0 1 = KIND");
        r.go("mark 0 1 5 = 1; reads 0 = 1; pour 0 = 1; told 1 4 = 5; told 0 4 = 0; reads 0 = NONE; mark 0 1 NONE = 1; copy 0 0 0 1 1 = 1 same; mark 0 0 0; copy 0 1 0 0 1; lay 1 2 0");
        r.go("item 1 0 = KIND; sheet 0 1 2; lay 1 2 0; item 1 0 = 0; item 1 1 = 0; sheet 1 0 2; mark 1 0 NONE = KIND; mark 1 1 NONE = KIND");
    }

    static void slots(Rows r) {
        r.says("SLOTS 0 .. 4 each hold nothing (at first), a FLAME (as it is then, for good), a SHEET (a row of its own, as it was then), or a number.");
        r.begin("flame 5 0 5; sheet 0 0 2");
        for (int slot = 0; slot < 5; slot++) {
            r.go("ask " + slot + " 0 = NOTHING; item " + slot + " 0 = NOTHING; rest " + slot + " 5 = NOTHING; lay " + slot + " 0 0 = 0 same");
        }
        for (int slot = 0; slot < 5; slot++) {
            r.go("lay " + slot + " 3 " + (slot + 10) + " = 0; rest " + slot + " 100 = " + (slot + 10));
        }
        for (int slot = 0; slot < 5; slot++) {
            r.go("rest " + slot + " 100 = " + (slot + 10));
        }
        for (String call : new String[] {"lay % 0 0", "lay % 1 0", "lay % 2 0", "lay % 3 0", "rest % 5"}) {
            r.bounds(call, 0, 4, "BAD");
        }
        r.go("lay 0 1 0 = 3; lay 4 1 0 = 3");
        r.bounds("ask % 0", 0, 4, "BAD");
        r.go("lay 0 2 0 = 1; lay 4 2 0 = 1");
        r.bounds("item % 0", 0, 4, "BAD");
        r.bounds("lay 0 % 0", 0, 3, "BAD");
    }

    static void slotsAreAsThen(Rows r) {
        r.begin("flame 4 0 9; lay 0 1 0 = 0; ask 0 4 = -2; ask 0 2 = -2; set 0 0 1; turns 0 5; set 0 2 0; ask 0 4 = -2; ask 0 0 = -2; ask 0 5 = KIND; run 3; ask 0 4 = -2");
        r.go("lay 1 1 0; ask 1 5 = 1; ask 1 4 = KIND; keep; back; ask 0 4 = -2; ask 1 5 = 1");
        r.begin("keep; flame 1 0 3; lay 0 1 0; back; count 0 = 0; ask 0 1 = 7; flame 0 0 9; ask 0 1 = 7; ask 0 0 = 7; lay 0 1 0 = 1; ask 0 0 = 9; ask 0 1 = KIND");
        r.begin("sheet 0 0 2; mark 0 0 5; lay 0 2 0; mark 0 0 6; item 0 0 = 5; lay 1 2 0; item 1 0 = 6; item 0 0 = 5; copy 0 0 0 1 1; item 0 1 = 0; item 1 1 = 0");
        r.go("sheet 0 1 1; item 0 0 = 5; item 0 1 = 0; sheet 0 -1 0; item 0 0 = 5; item 1 0 = 6; sheet 1 0 1; lay 0 2 1 = 2; item 0 0 = 0; item 0 1 = INDEX; item 1 0 = 6; item 1 1 = 0");
        r.begin("lay 0 3 MAX = 0; lay 1 3 MIN = 0; lay 2 3 NONE = 0; rest 0 MIN = MAX; rest 1 MAX = -1; rest 2 MAX = NONE; lay 0 3 0 = 3; rest 0 1 = 0; rest 2 MAX = NONE");
    }

    static void findings(Rows r) {
        r.says("FINDINGS: NOTHING: a SHEET is MISSING, a SLOT holds nothing; INDEX: there is no such place; SIZE: a number of places is below 0; "
            + "KIND: it is none (of a KIND, a number, or another thing).");
        r.begin("flame 0 0 1; reads 3 = NOTHING; ask 4 0 = NOTHING; sheet 0 0 3; mark 0 3 0 = INDEX; mark 0 -1 0 = INDEX; sheet 0 0 -1 = SIZE; as 0 1 = KIND; mark 0 0 NONE = KIND");
        r.go("lay 0 1 0; ask 0 1 = KIND; item 0 0 = KIND; rest 0 1 = KIND; lay 0 2 0; ask 0 0 = KIND; rest 0 1 = KIND; lay 0 3 5; ask 0 0 = KIND; item 0 0 = KIND");
        r.go("sheet 1 1 3; copy 0 0 1 0 1 = KIND; mark 1 0 NONE; lay 0 2 1; item 0 0 = KIND; lay 0 0 0; ask 0 0 = NOTHING; item 0 0 = NOTHING; rest 0 1 = NOTHING");
    }

    static void whatImagesKeep(Rows r) {
        r.says("AN IMAGE keeps all but SHEETS, SLOTS, numbers that wait, THE TAPE;");
        r.begin("flame 0 1010 5; flame 5 1012 3; flame 3 2900 9; set 1 1 40; set 2 2 500; glass 0 2 1; reach 0 7; reach 1 17; seed 55; run 9");
        r.text("pace 3+s", "0");
        r.text("join p/3", "1");
        r.go("keep = 3");
        String[] changes = {"run 1", "run 60", "set 0 0 9", "set 1 1 77", "set 2 2 0", "turns 0 4", "move 2 0", "glass 0 2 0", "glass 0 1 1", "reach 0 1", "reach 1 1", "seed 1", "deal 5",
            "flame 1 0 1", "flame 0 0 9; set 3 1 99; set 3 2 1; glass 0 3 1; glass 3 1 1; run 2", "back", "run 60; run 60; run 60; set 0 1 0; turns 1 0; deal 8; seed 0; reach 0 59; glass 1 2 1"};
        for (String change : changes) {
            r.comesToTheSame(change + "; back = 3");
            r.comesToTheSame("back = 3; " + change + "; back = 3");
        }
        // "pace 9 ", "wind 9 ", "join 9 " behind the image: other laws, and laws where there were none.
        for (int word : new int[] {0x70616365, 0x77696e64, 0x6a6f696e}) {
            r.comesToTheSame("feed " + word + " " + 0x20392020 + " " + 0x20202020 + " = 12; text = 2; back = 3");
        }
    }

    static void whatImagesDoNotKeep(Rows r) {
        r.begin("flame 0 0 5; sheet 0 0 2; mark 0 0 3; sheet 1 1 1; lay 0 3 8; lay 1 2 0; tell 0; tell 0; feed 1 2 3; keep = 1");
        r.go("mark 0 0 4; sheet 1 -1 0; sheet 2 0 5; lay 0 0 0; lay 1 3 4; lay 2 1 0; tell 5; trim 5; back = 1");
        r.go("lay 4 2 0; item 4 0 = 4; reads 1 = NOTHING; lay 4 2 2; item 4 4 = 0; rest 0 9 = NOTHING; rest 1 9 = 4; ask 2 0 = 5; count 6 = 3; count 7 = 5");
        r.begin("keep; tell 1; feed 1 2 3; sheet 0 0 1; lay 0 3 1; back; count 6 = 1; count 7 = 12; reads 0 = 0; rest 0 5 = 1");
    }

    static void againAndAgain(Rows r) {
        r.says("all can become as it is (again and again).");
        r.begin("back = NO; keep = 0; back = 0; flame 0 0 5; back = 0; count 0 = 0; flame 0 0 5; keep = 1; back = 1; run 5; back = 1; told 0 4 = 0; run 9; back = 1; told 0 4 = 0; count 2 = 0");
        r.go("set 0 1 9; keep = 1; set 0 1 10; back = 1; told 0 4 = 9; deal 7; keep = 8; back = 8; count 0 = 8; keep = 8 same; back = 8 same");
    }

    static void ticksTold(Rows r) {
        r.says("THE TICKS TOLD: of n TICKS, one behind the other, by THE IMAGE: SPREAD behind it; how many FLASHED in it.");
        // 110 and 118 become 119 and 123, then 127 and 129.
        r.begin("flame 0 0 5; flame 0 0 5; set 0 1 110; set 1 1 118; keep; tell 4; tell 1; check 1 = 0; tell 4; tell 1; tell 2; tell 1; check 2 = 0; tell 8; tell 1; check 1 = 1; tell 4; tell 0");
        r.go("check 1 = 2; run 20; set 0 2 0; glass 0 1 1; tell 4; tell 1; tell 2; tell 1; check 2 = 0; tell 4; tell 1; tell 2; tell 0; check 2 = 4; count 2 = 20");
        r.begin("flame 0 0 5; set 0 2 10; keep; tell 0; tell 0; tell NONE; tell 0; tell NONE; tell 0; check 3 = 0; tell 0; tell 0; tell 0; tell 0; check 2 = 3");
        ticksToldByTheImage(r);
        r.begin("keep; tell NONE; tell 0; check 1 = 0; flame 0 0 5; tell NONE; tell 0; check 1 = 0; tell 0; tell 0; check 1 = 1");
    }

    /** One in a draught and one that stands still: z, TICK and laws are those of the image. */
    static void ticksToldByTheImage(Rows r) {
        int z = EdgesOfTicks.drawn(77);
        int first = 13 + (z >>> 8) % 11 - 5;
        int second = first + 13 + (EdgesOfTicks.drawn(z) >>> 8) % 11 - 5;
        String rows = "tell " + first + "; tell 0; tell " + second + "; tell 0; check 2 = 0";
        r.begin("flame 5 0 1; flame 4 2929 1; seed 77; keep", rows, "seed 1", rows, "run 5", rows, "move 0 2928; reach 1 59; set 0 0 9; turns 0 3; glass 0 1 1", rows);
        r.text("wind 30", "0");
        r.text("pace 0", "1");
        r.text("join 20", "2");
        r.go(rows, "deal 6", rows, "back = 2", rows);
        r.begin("flame 5 0 1; flame 4 2929 1; run 3; set 0 1 0");
        r.text("pace 0", "0");
        r.text("wind t*5", "1");
        r.go("keep; tell 17; tell 0; tell 39; tell 0; check 2 = 0; run 9; tell 17; tell 0; tell 39; tell 0; check 2 = 0");
    }
}
