/** The edges of the document's 'Terms', part 3, BASIN, QUIET, LEARNT, a FLAME that is drawn. */
final class EdgesOfThought {
    private EdgesOfThought() {
    }

    static void all(Rows r) {
        beginnings(r);
        firstTwoThatAreLit(r);
        basinIsBehind30Ticks(r);
        basinAllElseAsItIs(r);
        quietPlaces(r);
        quietAtTheEdges(r);
        quietIsBehind10Ticks(r);
        quietFromNowOn(r);
        quietWhereNoneIsLit(r);
        nearsThatAreTried(r);
        mostPlaces(r);
        placesAreTicks(r);
        learntFromNowOn(r);
        drawnFlames(r);
    }

    static void beginnings(Rows r) {
        r.says("BASIN for w: of 36 beginnings (PHASES of the two first LIT FLAMES become 20 times u, 20 times v, u and v 0 .. 5 each; all else as it is) "
            + "how many have a SPREAD of w or less after 30 TICKS.");
        r.begin("flame 4 0 1; flame 4 2929 1; set 0 1 7; set 1 1 77");
        r.go("basin 0 = 6; basin 1 = 6; basin 19 = 6; basin 20 = 18; basin 39 = 18; basin 40 = 30; basin 59 = 30; basin 60 = 36; basin 119 = 36; told 0 4 = 7; told 1 4 = 77");
        // The third stands between 100, the greatest, and 0, the least.
        r.begin("flame 4 0 1; flame 4 29 1; flame 4 2929 1; set 2 1 110; basin 9 = 0; basin 10 = 2; basin 19 = 2; basin 20 = 4; set 2 1 100; basin 0 = 1; set 2 1 0; basin 0 = 1");
        r.go("set 2 1 119; basin 0 = 0; basin 1 = 1; set 2 1 101; basin 1 = 1; set 2 1 50; basin 9 = 0; basin 10 = 2");
    }

    static void firstTwoThatAreLit(Rows r) {
        r.begin("basin 60 = NO; flame 4 0 1; basin 60 = NO; flame 4 29 1; basin 60 = 36; set 0 2 0; basin 60 = NO; set 1 2 0; basin 60 = NO; set 0 2 1; set 1 2 1; basin 119 = 0");
        r.begin("flame 4 0 1; flame 4 29 1; flame 4 2900 1; flame 4 2929 1; set 0 2 0; set 2 2 0; set 0 1 5; set 2 1 65; basin 0 = 6; basin 60 = 36");
        r.begin("deal 8; basin 119 = 36");
        for (int i = 0; i < 6; i++) {
            r.go("set " + i + " 2 0; basin 119 = 36");
        }
        r.go("set 6 2 0; basin 119 = NO; set 7 2 0; basin 119 = NO; set 0 2 999; basin 119 = NO; set 7 2 999; basin 119 = 36");
        r.begin("flame 4 0 1; flame 4 29 1; flame 4 2900 1; flame 4 2929 1; set 2 1 65; set 3 1 65; basin 4 = 0; basin 5 = 1; set 2 1 40; basin 5 = 0; set 2 1 60; basin 5 = 1; basin 4 = 0; set 3 2 0; basin 0 = 1");
    }

    /** One in a draught goes on by 10 in the 30th tick and in the 31st. */
    static void basinIsBehind30Ticks(Rows r) {
        r.begin("flame 5 0 1; flame 4 2929 1");
        r.text("pace 0", "0");
        r.text("wind ((t=29)+(t=30))*10-2", "1");
        r.go("basin 9 = 0; basin 10 = 12; basin 20 = 12; basin 30 = 24");
        r.go("run 1; basin 9 = 6; basin 20 = 18");
        r.begin("flame 4 0 1; flame 4 2929 1; set 0 2 30; basin 0 = 36; set 0 2 31; basin 0 = 6; set 1 2 30; basin 0 = 36; set 0 2 30; basin 119 = 0");
    }

    /** Two in a draught, each at its place in the air of nobody: the winds of each beginning are those of the first. */
    static void basinAllElseAsItIs(Rows r) {
        int[] gone = {0, 0};
        int z = 4711;
        for (int i = 0; i < 60; i++) {
            z = EdgesOfTicks.drawn(z);
            gone[i % 2] += (z >>> 8) % 11 - 5;
        }
        int most = 0;
        for (int begin = 0; begin < 36; begin++) {
            int apart = Math.floorMod(gone[0] - gone[1] + 20 * (begin / 6) - 20 * (begin % 6), 120);
            most += Math.min(apart, 120 - apart) <= 15 ? 1 : 0;
        }
        r.begin("flame 5 0 1; flame 5 2929 1; seed 4711; basin 15 = " + most + "; basin 15 = " + most + "; basin 60 = 36; count 8 = 4711");
        r.begin("flame 4 0 1; flame 4 0 1; flame 0 0 5; set 2 1 30; glass 0 1 1; glass 0 2 1; glass 1 2 1; basin 0 = 1; set 2 0 6; basin 9 = 0; basin 10 = 2; basin 20 = 4");
    }

    /** Only 5 away from the still one, at phase 50, is one pushed, by 2 with each tick. */
    static void fiveAway(Rows r, int place, int still) {
        r.begin("flame 0 " + place + " 5; flame 4 " + still + " 5; set 1 1 50");
        r.text("pace 0", "0");
        r.text("join (d=5)*2", "1");
    }

    static void quietPlaces(Rows r) {
        r.says("QUIET for a FLAME: of 49 places (x and y each -3 .. 3 more, if they are 0 .. 29) that from which SPREAD after 10 TICKS is least; of several the first (by x, then y).");
        int[] stills = {1018, 2618, 1810, 1826, 1312, 1324, 2312, 2324};
        int[] firsts = {1518, 2118, 1815, 1821, 1515, 1521, 2115, 2121};
        for (int i = 0; i < stills.length; i++) {
            fiveAway(r, 1818, stills[i]);
            r.go("quiet 0 0 = 30; quiet 0 1 = " + firsts[i]);
        }
        for (int far : new int[] {918, 2718, 1809, 1827, 1311, 1212, 1325, 2311, 2325}) {
            fiveAway(r, 1818, far);
            r.go("quiet 0 0 = 50; quiet 0 1 = 1515");
        }
        fiveAway(r, 1818, 1823);
        r.go("quiet 0 0 = 30; quiet 0 1 = 1521; quiet 1 0 = 30; quiet 1 1 = 1520");
        fiveAway(r, 1818, 1818);
        r.go("quiet 0 0 = 30; quiet 0 1 = 1516; told 0 1 = 18; told 0 2 = 18");
    }

    static void quietAtTheEdges(Rows r) {
        fiveAway(r, 0, 2929);
        r.go("quiet 0 0 = 50; quiet 0 1 = 0; quiet 1 1 = 2626");
        r.go("move 1 1515");
        for (int[] place : new int[][] {{303, 0}, {202, 0}, {304, 1}, {403, 100}, {29, 26}, {2900, 2600}, {2925, 2622}, {2529, 2226}}) {
            r.go("move 0 " + place[0] + "; quiet 0 0 = 50; quiet 0 1 = " + place[1]);
        }
        // The first places 5 away from the still one would be beyond the edge.
        fiveAway(r, 0, 4);
        r.go("quiet 0 0 = 30; quiet 0 1 = 100; glass 0 1 1; quiet 0 0 = 50; quiet 0 1 = 0");
        fiveAway(r, 2929, 2921);
        r.go("quiet 0 0 = 30; quiet 0 1 = 2926");
        fiveAway(r, 2729, 2722);
        r.go("quiet 0 0 = 30; quiet 0 1 = 2626");
        fiveAway(r, 2926, 2124);
        r.go("quiet 0 0 = 30; quiet 0 1 = 2624");
    }

    static void quietIsBehind10Ticks(Rows r) {
        fiveAway(r, 1010, 1015);
        r.go("set 0 2 45; quiet 0 0 = 0; set 0 2 50; quiet 0 0 = 0; set 0 2 51; quiet 0 0 = 30; set 1 2 50; quiet 0 0 = 0; set 0 2 50; quiet 0 0 = NONE; quiet 0 1 = 707; quiet 1 1 = 712");
        r.begin("flame 5 1010 1; flame 4 2929 1");
        r.text("pace 0", "0");
        r.text("wind ((t=9)+(t=10))*10-2", "1");
        r.go("quiet 0 0 = 10; run 1; quiet 0 0 = 20; run 9; set 0 1 0; quiet 0 0 = 10; run 1; set 0 1 0; quiet 0 0 = 0");
    }

    /** One in a draught: its winds are the same from all places, so the first is the least. */
    static void quietFromNowOn(Rows r) {
        int z = 4711;
        int gone = 0;
        for (int i = 0; i < 10; i++) {
            z = EdgesOfTicks.drawn(z);
            gone += 13 + (z >>> 8) % 11 - 5;
        }
        int apart = Math.floorMod(gone, 120);
        r.begin("flame 5 1010 1; flame 4 2929 1; seed 4711; quiet 0 0 = " + Math.min(apart, 120 - apart) + "; quiet 0 1 = 707; quiet 1 1 = 2626; count 8 = 4711");
    }

    /** Where none is LIT, all places count alike: the first is one that there is. */
    static void quietWhereNoneIsLit(Rows r) {
        int[] places = {0, 303, 304, 403, 29, 27, 2900, 2929, 2829, 1515};
        int[] firsts = {0, 0, 1, 100, 26, 24, 2600, 2626, 2526, 1212};
        r.begin("flame 0 0 1; set 0 2 10");
        for (int i = 0; i < places.length; i++) {
            r.go("move 0 " + places[i] + "; quiet 0 0 = NONE; quiet 0 1 = " + firsts[i]);
        }
    }

    /** One that is pushed by 10, from 0 to 17, within NEAR; the other stands still, so far away. */
    static void away(Rows r, int still) {
        r.begin("flame 0 0 5; flame 4 " + still + " 5; set 1 1 40; reach 1 0; sheet 0 1 1; mark 0 0 17");
    }

    static void nearsThatAreTried(Rows r) {
        r.says("LEARNT of a SHEET, for a FLAME: the NEAR 0 .. 29 with which most places k that are numbers are its PHASE after k and 1 TICKS; of several the least.");
        int[] stills = {0, 1, 2, 12, 28, 2800, 29, 2900, 1514};
        int[] due = {0, 1, 2, 12, 28, 28, 29, 29, 29};
        for (int i = 0; i < stills.length; i++) {
            away(r, stills[i]);
            r.go("learn 0 0 = " + due[i] + "; reach 0 0; learn 0 0 = " + due[i] + "; reach 0 59; learn 0 0 = " + due[i] + "; count 3 = 59");
        }
        for (int still : new int[] {1515, 2901, 129, 2929}) {
            away(r, still);
            r.go("learn 0 0 = 0; reach 0 59; learn 0 0 = 0");
        }
        away(r, 12);
        r.go("mark 0 0 7; learn 0 0 = 0; mark 0 0 8; learn 0 0 = 0; mark 0 0 NONE; learn 0 0 = 0; sheet 0 0 0; learn 0 0 = 0; sheet 0 0 1; mark 0 0 17; learn 0 0 = 12");
    }

    /** Without pace, one that is pushed by 10 with each tick, within 12, by one that goes away from it as fast, and is not pushed otherwise. */
    static void mostPlaces(Rows r) {
        away(r, 12);
        r.text("pace 0", "0");
        r.go("sheet 1 1 4; mark 1 0 10; mark 1 1 20; mark 1 2 30; mark 1 3 40; learn 1 0 = 12");
        r.go("mark 1 0 0; mark 1 1 0; learn 1 0 = 0; mark 1 1 NONE; learn 1 0 = 12; mark 1 2 0; learn 1 0 = 0; mark 1 2 NONE; learn 1 0 = 0");
        r.go("mark 1 0 NONE; learn 1 0 = 12; mark 1 3 NONE; learn 1 0 = 0");
        r.go("mark 1 0 10; mark 1 1 130; mark 1 2 -98; mark 1 3 99999; learn 1 0 = 12; learn 1 1 = 0; mark 1 1 40; learn 1 1 = 0");
    }

    static void placesAreTicks(Rows r) {
        r.begin("flame 0 0 5; flame 4 12 5; set 1 1 40; reach 1 0; sheet 0 0 24; set 0 2 5");
        for (int k = 0; k < 24; k++) {
            r.go("mark 0 " + k + " 17");
        }
        // It goes out with the first tick, at 17 or 7: all 24 places are that.
        r.go("learn 0 0 = 12");
        for (int k = 0; k < 12; k++) {
            r.go("mark 0 " + k + " 7");
        }
        r.go("learn 0 0 = 0; mark 0 11 17; learn 0 0 = 12; mark 0 11 99; mark 0 23 7; learn 0 0 = 0");
        r.begin("flame 4 0 5; flame 5 1 5; set 1 2 0; sheet 0 0 2; mark 0 0 0; mark 0 1 0; learn 0 1 = 0");
        away(r, 12);
        r.go("sheet 0 0 2; mark 0 0 32; mark 0 1 17; learn 0 0 = 0; mark 0 0 99; mark 0 1 32; learn 0 0 = 12; mark 0 0 32; mark 0 1 99; learn 0 0 = 0; mark 0 1 14; learn 0 0 = 0; mark 0 0 17; learn 0 0 = 0");
    }

    static void learntFromNowOn(Rows r) {
        r.says("(Only thought, each time from now on.)");
        // What was seen of one in a draught, with NEAR 7: nobody but the one who begins with the same z sees the same.
        r.begin("flame 5 0 5; flame 4 7 5; set 1 1 40; seed 99; reach 0 7; run 1");
        CandleTurns seen = new CandleTurns();
        seen.flame(5, 0, 5);
        seen.flame(4, 7, 5);
        seen.set(1, 1, 40);
        seen.seed(99);
        seen.reach(0, 7);
        seen.run(1);
        r.go("sheet 2 0 24");
        for (int k = 0; k < 24; k++) {
            seen.run(1);
            r.go("mark 2 " + k + " " + seen.told(0, 4));
        }
        r.go("reach 0 3; learn 2 0 = 7; learn 2 0 = 7; count 3 = 3; count 2 = 1");
    }

    static void drawnFlames(Rows r) {
        r.says("A FLAME that is drawn: KIND the rest of a draw by 5, x, y those of one more each by 30, SIZE 1 and that of one more by 9, PHASE that of one more by 120.");
        int[] by = {5, 30, 30, 9, 120};
        int[] more = {0, 0, 0, 1, 0};
        for (int which = 0; which < 5; which++) {
            for (int rest : new int[] {0, by[which] - 1}) {
                int seed = EdgesOfTicks.seedFor(which + 1, by[which], rest);
                r.begin("seed " + seed + "; deal 1 = 1; told 0 " + which + " = " + (rest + more[which]));
            }
        }
        for (int seed : new int[] {-1, 3, Rows.MIN, 123456789}) {
            int z = seed;
            r.begin("flame 5 0 9; seed " + seed + "; deal 3 = 3");
            for (int i = 1; i <= 3; i++) {
                for (int which = 0; which < 5; which++) {
                    z = EdgesOfTicks.drawn(z);
                    r.go("told " + i + " " + which + " = " + ((z >>> 8) % by[which] + more[which]));
                }
                r.go("told " + i + " 5 = 999; told " + i + " 6 = 0");
            }
            r.go("count 8 = " + z);
        }
    }
}
