/** The edges of the document's 'Terms', part 2, A TICK. */
final class EdgesOfTicks {
    private EdgesOfTicks() {
    }

    static void all(Rows r) {
        ticksAreCounted(r);
        allAsTheyWere(r);
        nextIsTogether(r);
        windIsHeld(r);
        windIsDrawn(r);
        flashes(r);
        phasesGoRound(r);
        gasIsLess(r);
        outStaysAsItIs(r);
        draws(r);
        spreads(r);
        groups(r);
        soon(r);
        period(r);
        film(r);
        onlyThought(r);
    }

    static int drawn(int z) {
        return (int) (z * 1103515245L + 12345L);
    }

    /** The first seed from which the draw of this number (1 the first) has this rest. */
    static int seedFor(int number, int by, int rest) {
        for (int seed = 0; seed < 1000000; seed++) {
            int z = seed;
            for (int i = 0; i < number; i++) {
                z = drawn(z);
            }
            if ((z >>> 8) % by == rest) {
                return seed;
            }
        }
        throw new IllegalStateException("no seed");
    }

    static void ticksAreCounted(Rows r) {
        r.says("A TICK (TICK is 0 at first, one more with each):");
        r.begin("count 2 = 0; run 1 = 0; count 2 = 1; run 60 = 0; count 2 = 61; run 61 = BAD; run 0 = BAD; count 2 = 61");
        r.go("flame 0 0 1; set 0 2 0; run 1; count 2 = 62; keep; run 5; count 2 = 67; back; count 2 = 62");
        r.begin();
        for (int i = 0; i < 200; i++) {
            r.go("run 60 = 0");
        }
        r.go("count 2 = 12000");
    }

    static void allAsTheyWere(Rows r) {
        r.says("all LIT FLAMES by numbers, all PHASES (and who is LIT) as they were ahead of it:");
        r.begin("flame 0 0 5; flame 0 0 5; flame 0 0 5; set 1 1 40; run 1; told 0 4 = 17; told 1 4 = 27; told 2 4 = 17");
        for (int goesOut = 0; goesOut < 2; goesOut++) {
            int other = 1 - goesOut;
            r.begin("flame 0 0 5; flame 0 0 5; set " + other + " 1 40; set " + goesOut + " 2 5; run 1; told " + goesOut + " 5 = 0; told " + goesOut + " 4 = 17");
            r.go("told " + other + " 4 = 37; run 1; told " + other + " 4 = 44; told " + goesOut + " 4 = 17");
        }
        int z = drawn(77);
        int next = drawn(drawn(77));
        r.begin("flame 0 0 5; flame 5 29 5; flame 4 2900 5; flame 5 2929 5; seed 77; set 1 1 50; set 3 1 50; run 1");
        r.go("told 1 4 = " + (50 + 9 + (z >>> 8) % 11 - 5) + "; told 3 4 = " + (50 + 9 + (next >>> 8) % 11 - 5) + "; count 8 = " + next);
        r.go("set 1 2 0; seed 77; set 3 1 50; run 1; told 3 4 = " + (50 + 9 + (z >>> 8) % 11 - 5) + "; count 8 = " + z);
    }

    static void nextIsTogether(Rows r) {
        r.says("NEXT is PHASE, PACE and TURNED, together;");
        r.begin("flame 0 0 5; flame 0 0 5; set 0 1 20; set 1 1 40; run 1; told 0 4 = 32; told 1 4 = 42");
        r.begin("flame 3 0 1; flame 4 0 1; set 0 1 20; set 1 1 60; run 1; told 0 4 = 67; told 1 4 = 70");
        r.begin("flame 1 0 9; flame 2 0 9; set 0 1 20; set 1 1 60; run 1; told 0 4 = 44; told 1 4 = 71");
    }

    /** One in a draught (pace 2, from 50 on), and one that is not. */
    static void windIsHeld(Rows r) {
        r.says("WIND (of a DRAUGHTY one alone): what wind gives, held within -30 .. 30");
        String[] laws = {"29", "30", "31", "9999", "0-29", "0-30", "0-31", "0-9999", "0", "9999*9999*9999", "9999*9999*21"};
        int[] due = {81, 82, 82, 82, 23, 22, 22, 22, 52, 22, 82};
        for (int i = 0; i < laws.length; i++) {
            r.begin("flame 5 0 1; flame 0 2929 1; set 0 1 50; set 1 1 50");
            r.text("pace 0", "0");
            r.text("wind " + laws[i], "1");
            r.go("run 1 = 0; told 0 4 = " + due[i] + "; told 1 4 = 50; count 8 = 1");
        }
        for (int kind = 0; kind < 5; kind++) {
            r.begin("flame " + kind + " 0 1; set 0 1 50");
            r.text("pace 0", "0");
            r.text("wind 9", "1");
            r.go("run 1 = 0; told 0 4 = " + (50 + new int[] {0, 1, 0, 2 + 3, 0}[kind]));
        }
    }

    static void windIsDrawn(Rows r) {
        r.says("(without a TEXT: the rest of a draw by 11, less 5).");
        for (int rest = 0; rest < 11; rest++) {
            int seed = seedFor(1, 11, rest);
            r.begin("flame 5 0 1; set 0 1 50; seed " + seed + "; run 1 = 0; told 0 4 = " + (50 + 13 + rest - 5) + "; count 8 = " + drawn(seed));
        }
        for (int kind = 0; kind < 5; kind++) {
            r.begin("flame " + kind + " 0 1; run 3; count 8 = 1");
        }
        r.begin("flame 5 0 1; set 0 2 0; run 3; count 8 = 1; set 0 2 1; run 1; count 8 = " + drawn(1) + "; run 1; count 8 = " + drawn(1));
        r.begin("flame 5 0 1; run 1; count 8 = " + drawn(1));
        r.text("wind 0", "0");
        r.go("run 1; count 8 = " + drawn(1));
    }

    /** Pace 7, from phases on from which NEXT is 119, 120, 121. */
    static void flashes(Rows r) {
        r.says("One FLASHES, if NEXT is 120 or more.");
        r.begin("flame 0 0 5; set 0 1 112; run 1 = 0; told 0 6 = 0; told 0 4 = 119; run 1 = 1; told 0 6 = 1; told 0 4 = 6");
        r.begin("flame 0 0 5; set 0 1 113; run 1 = 1; told 0 6 = 1; told 0 4 = 0");
        r.begin("flame 0 0 5; set 0 1 114; run 1 = 1; told 0 6 = 1; told 0 4 = 1");
        r.begin("flame 0 0 5; flame 0 2929 5; set 0 1 113; set 1 1 112; run 1 = 1; run 1 = 1; told 0 6 = 1; told 1 6 = 1; run 60 = 6; told 0 6 = 4; told 1 6 = 4");
        r.go("keep; run 60; back; told 0 6 = 4");
        r.begin("flame 4 0 5; set 0 1 119; run 60 = 0; told 0 6 = 0");
    }

    /** One of a kind, pushed by so many with 20 each: NEXT is far below 0, or above 240. */
    static void pushed(Rows r, int kind, int others, int phase, String rows) {
        r.begin("flame " + kind + " 0 1; set 0 1 " + phase);
        for (int i = 0; i < others; i++) {
            r.go("flame 4 0 1");
        }
        r.text("pace 0", "0");
        r.text("join 20", "1");
        r.go(rows);
    }

    static void phasesGoRound(Rows r) {
        r.says("PHASE becomes the rest of NEXT by 120 (and 120 more, if that is below 0).");
        pushed(r, 2, 1, 20, "run 1 = 0; told 0 4 = 0");
        pushed(r, 2, 1, 19, "run 1 = 0; told 0 4 = 119; told 0 6 = 0");
        pushed(r, 2, 1, 21, "run 1 = 0; told 0 4 = 1");
        pushed(r, 2, 6, 0, "run 1 = 0; told 0 4 = 0; told 0 6 = 0");
        pushed(r, 2, 6, 1, "run 1 = 0; told 0 4 = 1");
        pushed(r, 2, 7, 19, "run 1 = 0; told 0 4 = 119");
        pushed(r, 2, 7, 20, "run 1 = 0; told 0 4 = 0");
        pushed(r, 2, 7, 0, "run 1 = 0; told 0 4 = 100");
        pushed(r, 0, 7, 99, "run 1 = 1; told 0 4 = 119; told 0 6 = 1");
        pushed(r, 0, 7, 100, "run 1 = 1; told 0 4 = 0; told 0 6 = 1");
        pushed(r, 3, 7, 74, "run 1 = 1; told 0 4 = 119; told 0 6 = 1");
        pushed(r, 3, 7, 75, "run 1 = 1; told 0 4 = 0; told 0 6 = 1");
        pushed(r, 3, 7, 119, "run 1 = 1; told 0 4 = 44; told 0 6 = 1");
        r.begin("flame 3 0 1; set 0 1 119");
        for (int i = 0; i < 7; i++) {
            r.go("flame 4 0 1");
        }
        r.text("pace 40", "0");
        r.text("join 20", "1");
        r.go("run 1 = 1; told 0 4 = 4; told 0 6 = 1");
    }

    static void gasIsLess(Rows r) {
        r.says("GAS is SIZE less (0 at least).");
        for (int size = 1; size <= 9; size += 4) {
            r.begin("flame 0 0 " + size + "; run 1; told 0 5 = " + (999 - size) + "; run 9; told 0 5 = " + (999 - 10 * size));
            r.go("set 0 2 " + (size + 1) + "; run 1; told 0 5 = 1; count 1 = 1; run 1; told 0 5 = 0; count 1 = 0");
            r.go("set 0 2 " + size + "; run 1; told 0 5 = 0; count 1 = 0; run 1; told 0 5 = 0");
        }
        r.begin("flame 0 0 9; set 0 2 8; run 1; told 0 5 = 0; run 1; told 0 5 = 0");
        r.begin("flame 0 0 9; set 0 2 1; run 60; told 0 5 = 0; told 0 4 = 3");
    }

    static void outStaysAsItIs(Rows r) {
        r.says("(Those that are not LIT stay as they are.)");
        for (int kind = 0; kind < 6; kind++) {
            r.begin("flame " + kind + " 0 1; flame 0 0 1; set 0 1 119; set 0 2 0; set 1 1 60");
            r.go("run 1 = 0; told 0 0 = " + kind + "; told 0 3 = 1; told 0 4 = 119; told 0 5 = 0; told 0 6 = 0; told 1 4 = 71; count 8 = 1");
            r.go("run 60; told 0 4 = 119; told 0 6 = 0; told 0 5 = 0; film 0 60 = 0");
        }
    }

    static void draws(Rows r) {
        r.says("z is told (1 at first).");
        r.begin("count 8 = 1; seed 0 = 1; count 8 = 0; seed MAX = 0; seed MIN = MAX; seed -1 = MIN; count 8 = -1");
        r.says("A draw: z becomes z * 1103515245 + 12345 (an int); it gives z >>> 8.");
        int[] seeds = {0, 1, -1, Rows.MAX, Rows.MIN, 12345, -99999};
        for (int seed : seeds) {
            int z = seed;
            r.begin("flame 5 0 1; seed " + seed + "; set 0 1 50");
            int phase = 50;
            for (int i = 0; i < 4; i++) {
                z = drawn(z);
                phase = Math.floorMod(phase + 13 + (z >>> 8) % 11 - 5, 120);
                r.go("run 1; count 8 = " + z + "; told 0 4 = " + phase);
            }
        }
        r.begin("seed 0; deal 1 = 1; count 8 = " + drawn(drawn(drawn(drawn(drawn(0))))));
    }

    static void phases(Rows r, int... phases) {
        r.begin();
        for (int i = 0; i < phases.length; i++) {
            r.go("flame 0 0 1; set " + i + " 1 " + phases[i]);
        }
    }

    static void spreads(Rows r) {
        r.says("SPREAD: the least arc of PHASES (round by 120) in which all LIT FLAMES are: "
            + "120 less the greatest step from one PHASE that is there to the next one (one alone: 0).");
        int[][] phases = {{0}, {119}, {50, 50}, {0, 119}, {119, 0}, {0, 1}, {0, 59}, {0, 60}, {0, 61}, {30, 90}, {29, 90}, {0, 40, 80}, {0, 39, 80}, {10, 10, 110}, {0, 0, 60, 60},
            {0, 15, 30, 45, 60, 75, 90, 105}, {0, 1, 2, 3, 4, 5, 6, 7}, {113, 114, 115, 116, 117, 118, 119, 0}, {7, 7, 7, 7, 7, 7, 7, 7}, {105, 15, 75, 45, 60, 30, 90, 0}};
        int[] due = {0, 0, 0, 1, 1, 1, 59, 60, 59, 60, 59, 80, 79, 20, 60, 105, 7, 7, 0, 105};
        for (int i = 0; i < phases.length; i++) {
            phases(r, phases[i]);
            r.go("spread = " + due[i]);
        }
        phases(r, 0, 40, 80);
        r.go("set 1 2 0; spread = 40; set 0 2 0; spread = 0; set 2 2 0; spread = NONE; set 2 2 1; spread = 0");
    }

    static void groups(Rows r) {
        r.says("GROUPS for w: how many of these steps are above w; 1, if none is (0 without LIT FLAMES).");
        r.begin("groups 0 = 0; groups 119 = 0; flame 0 0 1; groups 0 = 1; groups 119 = 1; set 0 2 0; groups 0 = 0; groups 119 = 0");
        phases(r, 50, 50);
        r.go("groups 0 = 1; groups 119 = 1");
        phases(r, 119, 0);
        r.go("groups 0 = 2; groups 1 = 1; groups 118 = 1; groups 119 = 1");
        phases(r, 0, 60);
        r.go("groups 0 = 2; groups 59 = 2; groups 60 = 1; groups 61 = 1");
        phases(r, 0, 40, 40, 90);
        r.go("groups 29 = 3; groups 30 = 2; groups 39 = 2; groups 40 = 1; groups 49 = 1; groups 50 = 1; set 3 2 0; groups 39 = 2; groups 40 = 1; groups 79 = 1; groups 80 = 1");
        phases(r, 40, 40, 80, 80);
        r.go("set 0 2 0; set 2 2 0; groups 0 = 2; groups 39 = 2; groups 40 = 1; set 1 2 0; groups 0 = 1; set 3 2 0; groups 0 = 0");
        phases(r, 105, 15, 75, 45, 60, 30, 90, 0);
        r.go("groups 0 = 8; groups 14 = 8; groups 15 = 1; groups 119 = 1");
    }

    /** Two that stand still at 0 and 40, of which the first goes out behind so many ticks. */
    static void goesOutBehind(Rows r, int ticks, String rows) {
        r.begin("flame 4 0 1; flame 4 29 1; set 1 1 40; set 0 2 " + ticks);
        r.go(rows);
    }

    static void soon(Rows r) {
        r.says("SOON for w: after how many TICKS (0 .. 200) SPREAD is w or less for the first time.");
        goesOutBehind(r, 1, "soon 39 = 1; soon 40 = 0; soon 41 = 0; soon 0 = 1");
        goesOutBehind(r, 199, "soon 39 = 199; soon 40 = 0");
        goesOutBehind(r, 200, "soon 39 = 200; soon 0 = 200; soon 40 = 0");
        goesOutBehind(r, 201, "soon 39 = NONE; soon 40 = 0; soon 119 = 0");
        r.begin("flame 0 0 1; soon 0 = 0; flame 0 0 1; soon 0 = 0; set 0 2 0; set 1 2 0; soon 119 = NONE");
        r.begin("flame 0 0 5; flame 0 0 5; set 1 1 40; soon 40 = 0; soon 39 = 1; soon 20 = 1; soon 19 = 2; soon 2 = 5; soon 1 = NONE");
        r.go("set 1 0 6; set 0 2 20; set 1 2 20; soon 0 = NONE");
    }

    /** One in a draught goes away with the first tick and comes back with the last of so many. */
    static void comesBackBehind(Rows r, int ticks, String answer) {
        r.begin("flame 5 0 1; set 0 1 50");
        r.text("pace 0", "0");
        r.text("wind (t=0)*10-(t=" + (ticks - 1) + ")*10-2", "1");
        r.go("period = " + answer);
    }

    static void period(Rows r) {
        r.says("PERIOD: after how many TICKS (1 .. 300) all FLAMES have the PHASES that they have now for the first time.");
        r.begin("period = 1; flame 4 0 1; period = 1; flame 0 29 2; period = 12; set 1 2 0; period = 1");
        comesBackBehind(r, 2, "2");
        comesBackBehind(r, 299, "299");
        comesBackBehind(r, 300, "300");
        comesBackBehind(r, 301, "NONE");
        r.begin("flame 0 0 2; flame 0 2929 4; period = 60; set 0 1 119; set 1 1 3; period = 60; run 7; period = 60");
        r.begin("flame 0 0 2; flame 4 2929 1; set 1 1 60; period = 12; set 0 2 24; period = 12; set 0 2 23; period = 12; set 0 2 22; period = NONE");
        r.begin("flame 0 0 2; set 0 2 0; flame 0 2929 2; period = 12");
        r.begin();
        for (int i = 0; i < 8; i++) {
            r.go("flame 0 0 2; set " + i + " 1 " + i);
        }
        r.text("join 0", "0");
        r.go("period = 12; set 7 0 3; period = 120; set 7 2 0; period = 12; set 7 2 3; period = NONE");
    }

    static void film(Rows r) {
        r.says("FILM of a FLAME by k: its PHASE after k TICKS less that of now, as p above.");
        r.begin("flame 0 0 1; flame 4 2929 1");
        r.text("pace 1", "0");
        r.go("film 0 1 = 1; film 0 59 = 59; film 0 60 = -60; film 1 60 = 0; set 0 1 119; film 0 1 = 1; film 0 59 = 59; film 0 60 = -60; set 0 1 60; film 0 60 = -60");
        r.text("pace 2", "1");
        r.go("film 0 29 = 58; film 0 30 = -60; film 0 31 = -58; film 0 60 = 0; set 0 2 1; film 0 60 = 2");
    }

    static void onlyThought(Rows r) {
        r.says("(All this is only thought: nothing changes, z neither.)");
        r.begin("seed 5; deal 3; flame 5 1010 3; flame 5 1212 3; set 1 1 119; set 2 2 7; sheet 0 0 5; tell 9; keep; run 2; glass 0 1 1");
        r.tape("join p/3");
        r.go("spread; groups 0; groups 119; soon 0; soon 30; soon 119; period; film 0 60; film 3 60; film 4 1; count 2 = 2");
        windsInThought(r);
        r.begin("flame 0 0 2; flame 5 1010 3; flame 5 1212 3; run 2");
        r.text("pace s+n", "0");
        r.text("wind t-n", "1");
        r.go("soon 0; period; film 1 60; film 2 1; count 2 = 2");
    }

    /** One in a draught, and one that stands still at its place: winds that are thought are those that come. */
    static void windsInThought(Rows r) {
        int z = 31;
        int gone = 0;
        r.begin("flame 5 0 1; flame 4 2929 1; seed 31");
        for (int k = 1; k <= 8; k++) {
            z = drawn(z);
            gone += 13 + (z >>> 8) % 11 - 5;
            int p = Math.floorMod(gone, 120);
            r.go("film 0 " + k + " = " + (p > 59 ? p - 120 : p));
        }
        r.go("run 8; film 1 1 = 0; count 8 = " + z + "; told 0 4 = " + Math.floorMod(gone, 120));
        int first = 13 + (drawn(z) >>> 8) % 11 - 5;
        r.go("set 0 1 0; set 1 1 " + first + "; soon 0 = 1; set 1 1 0; soon 0 = 0");
    }
}
