/** Terms II and promises 6 to 20: WIDTH, WATER, DEPTH, SPILL, HARM and BURSTS at their bounds. */
public final class WaterBoundsTest {
    private static final Check check = new Check();
    private static final String[] KINDS = {"plain", "meadow", "cellar", "bridge"};

    public static void main(String[] args) {
        widthIsOneAtLeast();
        widthByLacedRopesAlone();
        waterGoesOn();
        depthIsDownwards();
        spillsAboveTheBank();
        halfComesBack();
        harmByKinds();
        burstsAboveWhatItBears();
        outOfLawAboveTheTape();
        whatOfReachesAndRopes();
        sixReachesAndSevenRopes();
        narrowestIsTheFirst();
        wornIsTheFirst();
        spiltWater();
        byAnotherFlow();
        leastFlowOfBursting();
        leastFlowOfSpilling();
        greatestSafeFlow();
        check.end("WaterBoundsTest");
    }

    private static RiverCorset one(int flow, String kind, int wide, int bank) {
        return Check.of("river flow " + flow + " tape 40;reach a " + kind + " wide " + wide + " bank " + bank);
    }

    // ---- Terms II

    private static void widthIsOneAtLeast() {
        check.says("Terms II", "WIDTH of a reach: as told, less what LACED ropes there pull, 1 at least");
        int[][] rows = {{5, 3, 2}, {5, 4, 1}, {5, 5, 1}, {5, 9, 1}, {3, 1, 2}, {3, 2, 1}, {3, 3, 1}, {10, 9, 1}, {40, 9, 31}};
        for (int[] row : rows) {
            RiverCorset x = Check.of("river flow 99 tape 9;reach a plain wide " + row[0] + " bank 99;rope k at a pulls "
                    + row[1] + " bears 99");
            check.fine(x, row[0] + " less " + row[1], x.reach(0, 3), row[2]);
            check.fine(x, "DEPTH by it", x.reach(0, 5), 99 / row[2]);
            check.fine(x, "width as told", x.reach(0, 1), row[0]);
        }
        RiverCorset all = Check.of("river flow 99 tape 9;reach a plain wide 40 bank 99"
                + Check.many(";rope # at a pulls 9 bears 99", 7));
        check.fine(all, "40 less 63", all.reach(0, 3), 1);
        check.fine(all, "DEPTH", all.reach(0, 5), 99);
        all.ease(6);
        all.ease(0);
        check.fine(all, "40 less 45", all.reach(0, 3), 1);
        check.fine(all, "ease(): 40 less 36", all.ease(3), 4);
        check.fine(all, "lace(): 40 less 45", all.lace(0), 1);
    }

    private static void widthByLacedRopesAlone() {
        check.says("Terms II", "A ROPE is LACED, or loose (as told at first), or burst (loose, too, till it is mended)");
        RiverCorset x = Check.of("river flow 38 tape 9;reach a plain wide 20 bank 99;reach b plain wide 9 bank 99;"
                + "rope k at a pulls 1 bears 99;rope l at a pulls 2 bears 1;rope m at a pulls 4 bears 99;rope n at b pulls 5 bears 99;loose m");
        check.fine(x, "20 less 1 and 2", x.reach(0, 3), 17);
        check.fine(x, "9 less 5", x.reach(1, 3), 4);
        x.seed(65536);
        // The flow is 38 less 8: 30 by 17 is 1: l holds. Then its WEAR is 1, and 1 is above 0.
        x.year();
        check.fine(x, "l is LACED", x.rope(1, 3), 1);
        x.year();
        check.fine(x, "l is burst", x.rope(1, 3), 2);
        check.fine(x, "20 less 1", x.reach(0, 3), 19);
        x.mend(1);
        check.fine(x, "l is loose", x.rope(1, 3), 0);
        check.fine(x, "20 less 1", x.reach(0, 3), 19);
        x.lace(1);
        check.fine(x, "20 less 1 and 2 again", x.reach(0, 3), 17);
    }

    private static void waterGoesOn() {
        check.says("Terms II", "WATER comes into the first reach as much as the flow, into each next one as goes on from the one ahead");
        RiverCorset x = Check.of("river flow 100 tape 9;reach a plain wide 10 bank 9;reach b meadow wide 9 bank 8;"
                + "reach c cellar wide 8 bank 9;reach d bridge wide 7 bank 9");
        // a 10 deep: 10 SPILL. b 90: 10 deep: 18 SPILL, 9 come back. c 81: 10 deep: 8 SPILL. d 73: 10 deep: 7 SPILL.
        int[] waters = {100, 90, 81, 73};
        int[] spills = {10, 18, 8, 7};
        int[] harms = {10, 0, 16, 27};
        for (int r = 0; r < 4; r++) {
            check.fine(x, "WATER " + r, x.reach(r, 4), waters[r]);
            check.fine(x, "DEPTH " + r, x.reach(r, 5), 10);
            check.fine(x, "SPILL " + r, x.reach(r, 6), spills[r]);
            check.fine(x, "HARM " + r, x.reach(r, 7), harms[r]);
        }
        check.says("Promise 8", "WATER that goes on behind the last reach");
        check.fine(x, "below()", x.below(), 66);
        check.says("Promise 9", "HARM of all");
        check.fine(x, "harm()", x.harm(), 53);
        check.says("Promise 10", "Reaches at which it SPILLS, as bits");
        check.fine(x, "spills()", x.spills(), 15);
        x.rain(80);
        // a 8 deep, b 8, c 10: 8 SPILL, d 72: 10 deep, 7 SPILL.
        check.fine(x, "spills() of two", x.spills(), 12);
        x.rain(1);
        check.fine(x, "spills() of none", x.spills(), 0);
        check.fine(x, "harm() of none", x.harm(), 0);
        check.fine(x, "below() of all", x.below(), 1);
    }

    private static void depthIsDownwards() {
        check.says("Terms II", "DEPTH: WATER by WIDTH, downwards");
        RiverCorset x = one(9, "plain", 10, 99);
        int[][] rows = {{1, 0}, {9, 0}, {10, 1}, {19, 1}, {20, 2}, {999, 99}};
        for (int[] row : rows) {
            x.rain(row[0]);
            check.fine(x, row[0] + " by 10", x.reach(0, 5), row[1]);
            check.fine(x, "depthBy " + row[0], x.depthBy(0, row[0]), row[1]);
        }
    }

    private static void spillsAboveTheBank() {
        check.says("Terms II", "If DEPTH is above the bank, it SPILLS (DEPTH less bank) times WIDTH, which doesn't go on");
        RiverCorset x = one(9, "plain", 10, 3);
        int[][] rows = {{29, 2, 0}, {30, 3, 0}, {39, 3, 0}, {40, 4, 10}, {49, 4, 10}, {50, 5, 20}, {999, 99, 960}};
        for (int[] row : rows) {
            x.rain(row[0]);
            check.fine(x, "DEPTH by " + row[0], x.reach(0, 5), row[1]);
            check.fine(x, "SPILL by " + row[0], x.reach(0, 6), row[2]);
            check.fine(x, "spills() by " + row[0], x.spills(), row[2] > 0 ? 1 : 0);
            check.fine(x, "below() by " + row[0], x.below(), row[0] - row[2]);
        }
        RiverCorset high = Check.of("river flow 100 tape 9;reach a plain wide 3 bank 99;rope k at a pulls 2 bears 9");
        check.fine(high, "100 above 99", high.reach(0, 6), 1);
        check.fine(high, "spills() of 1", high.spills(), 1);
        check.fine(high, "99 goes on", high.below(), 99);
        high.rain(99);
        check.fine(high, "99 isn't above 99", high.reach(0, 6), 0);
        check.fine(high, "spills() of none", high.spills(), 0);
    }

    private static void halfComesBack() {
        check.says("Terms II", "on a meadow half of that (downwards) comes back and goes on");
        RiverCorset x = Check.of("river flow 100 tape 9;reach a meadow wide 3 bank 1;rope k at a pulls 2 bears 9");
        // WIDTH 1: SPILL is the flow less 1.
        int[][] rows = {{1, 0, 1}, {2, 1, 1}, {3, 2, 2}, {4, 3, 2}, {5, 4, 3}, {999, 998, 500}};
        for (int[] row : rows) {
            x.rain(row[0]);
            check.fine(x, "SPILL by " + row[0], x.reach(0, 6), row[1]);
            check.fine(x, "below() by " + row[0], x.below(), row[2]);
        }
        check.says("Promise 14", "WATER of the flow NOW that doesn't come out behind the last reach");
        check.fine(x, "spilt() of a meadow", x.spilt(), 499);
        x.rain(2);
        check.fine(x, "spilt() of 1", x.spilt(), 1);
        x.rain(3);
        check.fine(x, "spilt() of 2", x.spilt(), 1);
    }

    private static void harmByKinds() {
        String[] says = {"HARM: of a plain reach its SPILL", "of a meadow none", "of a cellar twice its SPILL",
            "of a bridge its SPILL and 20, if there is any"};
        int[] least = {1, 0, 2, 21};
        int[] most = {998, 0, 1996, 1018};
        for (int kind = 0; kind < 4; kind++) {
            check.says("Terms II", says[kind]);
            RiverCorset x = Check.of("river flow 1 tape 9;reach a " + KINDS[kind] + " wide 3 bank 1;rope k at a pulls 2 bears 9");
            check.fine(x, KINDS[kind] + " by no SPILL", x.reach(0, 7), 0);
            check.fine(x, KINDS[kind] + " by no SPILL, of all", x.harm(), 0);
            x.rain(2);
            check.fine(x, KINDS[kind] + " by 1", x.reach(0, 7), least[kind]);
            x.rain(999);
            check.fine(x, KINDS[kind] + " by 998", x.reach(0, 7), most[kind]);
            check.fine(x, KINDS[kind] + " by 998, of all", x.harm(), most[kind]);
            check.fine(x, KINDS[kind] + " harmBy(2)", x.harmBy(2), least[kind]);
            check.fine(x, KINDS[kind] + " harmBy(1)", x.harmBy(1), 0);
        }
    }

    private static void burstsAboveWhatItBears() {
        check.says("Terms II", "A LACED rope BURSTS if DEPTH at its reach is above what it bears less its WEAR");
        RiverCorset x = Check.of("river flow 40 tape 9;reach a plain wide 11 bank 99;rope k at a pulls 1 bears 4");
        check.fine(x, "4 isn't above 4", x.rope(0, 5), 0);
        check.fine(x, "bursts(49): 4", x.bursts(49), 0);
        check.fine(x, "bursts(50): 5", x.bursts(50), 1);
        x.rain(49);
        check.fine(x, "4 isn't above 4", x.rope(0, 5), 0);
        x.rain(50);
        check.fine(x, "5 is above 4", x.rope(0, 5), 1);
        check.fine(x, "it isn't burst by that", x.rope(0, 3), 1);
        x.ease(0);
        check.fine(x, "a loose one doesn't", x.rope(0, 5), 0);
        check.fine(x, "bursts() of a loose one", x.bursts(999), 0);
        x.lace(0);
        x.seed(65536);
        // 40 less 8 is 32 by 10: 3. Twice: WEAR 2 then, as 3 isn't above 4 or 3; then 3 is above 2.
        check.says("Terms II", "WEAR (years in which it was LACED)");
        x.year();
        check.fine(x, "WEAR 1", x.rope(0, 4), 1);
        check.fine(x, "3 isn't above 4 less 1", x.rope(0, 5), 0);
        check.fine(x, "bursts(39) by WEAR 1", x.bursts(39), 0);
        check.fine(x, "bursts(40) by WEAR 1", x.bursts(40), 1);
        x.year();
        check.fine(x, "WEAR 2", x.rope(0, 4), 2);
        check.fine(x, "3 is above 4 less 2", x.rope(0, 5), 1);
        check.fine(x, "bursts(29) by WEAR 2", x.bursts(29), 0);
        check.fine(x, "bursts(30) by WEAR 2", x.bursts(30), 1);
        x.ease(0);
        x.year();
        check.fine(x, "a loose one isn't worn", x.rope(0, 4), 2);
        x.lace(0);
        check.fine(x, "LACED again it is as worn", x.rope(0, 4), 2);
        check.fine(x, "what it bears is as told", x.rope(0, 2), 4);
    }

    private static void outOfLawAboveTheTape() {
        check.says("Terms II", "OUT OF LAW: a reach whose WIDTH is above the tape");
        RiverCorset x = Check.of("river flow 40 tape 9;reach a plain wide 8 bank 9;reach b plain wide 9 bank 9;"
                + "reach c plain wide 10 bank 9;reach d plain wide 11 bank 9;rope k at d pulls 1 bears 9;rope l at d pulls 1 bears 9");
        check.fine(x, "10 is above 9; 11 less 2 isn't", x.outOfLaw(), 4);
        check.says("Promise 11", "Reaches OUT OF LAW, as bits");
        x.ease(0);
        check.fine(x, "11 less 1 is", x.outOfLaw(), 12);
        check.due("tape 2", Check.of("river flow 1 tape 2;reach a plain wide 3 bank 1").outOfLaw(), 1);
        check.due("tape 40", Check.of("river flow 1 tape 40;reach a plain wide 40 bank 1").outOfLaw(), 0);
        check.due("tape 39", Check.of("river flow 1 tape 39;reach a plain wide 40 bank 1").outOfLaw(), 1);
    }

    // ---- Promises 6 to 20

    private static void whatOfReachesAndRopes() {
        check.says("Promise 6", "0 KIND (0 plain, 1 meadow, 2 cellar, 3 bridge), 1 width as told, .. 7 HARM");
        RiverCorset x = Check.of("river flow 77 tape 9;reach a bridge wide 10 bank 8;rope k at a pulls 2 bears 9");
        // WIDTH 8; 77 by 8 is 9; 8 SPILL; 28 HARM.
        int[] reach = {3, 10, 8, 8, 77, 9, 8, 28};
        for (int what = 0; what < 8; what++) {
            check.fine(x, "reach(0, " + what + ")", x.reach(0, what), reach[what]);
        }
        check.refused(x, "reach(0, 8)", x.reach(0, 8), 1);
        check.refused(x, "reach(0, -1)", x.reach(0, -1), 1);
        check.refused(x, "reach(1, 0)", x.reach(1, 0), 1);
        check.refused(x, "reach(-1, 0)", x.reach(-1, 0), 1);
        check.says("Promise 7", "0 its reach, 1 what it pulls, 2 what it bears, 3 1 LACED, 0 loose, 2 burst, 4 WEAR, 5 1 if it BURSTS NOW");
        int[] rope = {0, 2, 9, 1, 0, 0};
        for (int what = 0; what < 6; what++) {
            check.fine(x, "rope(0, " + what + ")", x.rope(0, what), rope[what]);
        }
        x.rain(80);
        check.fine(x, "rope(0, 5) by 10", x.rope(0, 5), 1);
        check.refused(x, "rope(0, 6)", x.rope(0, 6), 1);
        check.refused(x, "rope(0, -1)", x.rope(0, -1), 1);
        check.refused(x, "rope(1, 0)", x.rope(1, 0), 1);
        check.refused(x, "rope(-1, 0)", x.rope(-1, 0), 1);
    }

    private static void sixReachesAndSevenRopes() {
        check.says("Promises 6, 7", "of the last reach and the last rope there is room for");
        RiverCorset x = Check.of("river flow 60 tape 2" + Check.many(";reach # plain wide 10 bank 9", 6)
                + Check.many(";rope b# at q pulls 1 bears 19", 6) + ";rope z at l pulls 1 bears 6");
        check.fine(x, "reach(5, 3)", x.reach(5, 3), 4);
        check.fine(x, "reach(5, 5)", x.reach(5, 5), 15);
        check.refused(x, "reach(6, 3)", x.reach(6, 3), 1);
        check.fine(x, "rope(6, 0)", x.rope(6, 0), 0);
        check.refused(x, "rope(7, 0)", x.rope(7, 0), 1);
        check.fine(x, "spills() of the last", x.spills(), 32);
        check.fine(x, "outOfLaw() of all", x.outOfLaw(), 63);
        check.fine(x, "narrowest() is the last", x.narrowest(), 5);
        check.fine(x, "worn() is the last", x.worn(), 6);
        // 70 by 9 is 7 in l, by 10 7 in the others, by 4 17 in q.
        check.fine(x, "bursts() of the last", x.bursts(70), 64);
        check.fine(x, "depthBy(5, 70)", x.depthBy(5, 70), 17);
        check.fine(x, "burstsAt(6)", x.burstsAt(6), 63);
        check.fine(x, "spillsAt(5)", x.spillsAt(5), 40);
        check.refused(x, "spillsAt(6)", x.spillsAt(6), 1);
        check.refused(x, "burstsAt(7)", x.burstsAt(7), 1);
        check.refused(x, "depthBy(6, 1)", x.depthBy(6, 1), 1);
    }

    private static void narrowestIsTheFirst() {
        check.says("Promise 12", "The narrowest reach, the first such");
        RiverCorset x = Check.of("river flow 9 tape 9;reach a plain wide 6 bank 9;reach b plain wide 5 bank 9;"
                + "reach c plain wide 5 bank 9;rope k at a pulls 1 bears 9;rope l at c pulls 1 bears 9;loose k;loose l");
        check.fine(x, "6, 5, 5", x.narrowest(), 1);
        x.lace(0);
        check.fine(x, "5, 5, 5", x.narrowest(), 0);
        x.lace(1);
        check.fine(x, "5, 5, 4", x.narrowest(), 2);
        RiverCorset alone = one(9, "plain", 9, 9);
        check.fine(alone, "the one", alone.narrowest(), 0);
    }

    private static void wornIsTheFirst() {
        check.says("Promise 13", "that of which what it bears less its WEAR less DEPTH at its reach is least, the first such");
        // a is 3 deep, b 5.
        RiverCorset x = Check.of("river flow 38 tape 9;reach a plain wide 10 bank 99;reach b plain wide 8 bank 99;"
                + "rope k at a pulls 1 bears 22;rope l at b pulls 1 bears 22;rope m at b pulls 1 bears 22;loose l");
        x.rain(36);
        // By 9 a is 4 deep, by 7 b is 5: 18, -, 17.
        check.fine(x, "18 and 17", x.worn(), 2);
        x.lace(1);
        // By 6 b is 6 deep: 18, 16, 16.
        check.fine(x, "18, 16 and 16: the first such", x.worn(), 1);
        x.seed(65536);
        x.year();
        x.ease(0);
        x.year();
        x.lace(0);
        x.rain(36);
        // WEAR 1, 2, 2: 17, 14, 14.
        check.fine(x, "by WEAR", x.worn(), 1);
        x.ease(1);
        x.ease(2);
        check.fine(x, "the one", x.worn(), 0);
        check.says("Promise 13", "-2 none is LACED");
        x.ease(0);
        check.fine(x, "all loose", x.worn(), -2);
        RiverCorset none = one(9, "plain", 9, 9);
        check.fine(none, "no ropes", none.worn(), -2);
        RiverCorset burst = Check.of("river flow 30 tape 9;reach a plain wide 3 bank 9;rope k at a pulls 2 bears 1");
        burst.seed(65536);
        burst.year();
        check.fine(burst, "it is burst", burst.rope(0, 3), 2);
        check.fine(burst, "a burst one alone", burst.worn(), -2);
        // What is left may be below 0: 20 and 19 deep by 1.
        RiverCorset below = Check.of("river flow 20 tape 9;reach a plain wide 3 bank 99;reach b plain wide 3 bank 99;"
                + "rope k at a pulls 2 bears 3;rope l at b pulls 2 bears 2;rope m at b pulls 1 bears 1");
        check.fine(below, "-17, -18, -19", below.worn(), 2);
    }

    private static void spiltWater() {
        check.says("Promise 14", "WATER of the flow NOW that doesn't come out behind the last reach");
        RiverCorset x = one(39, "plain", 10, 3);
        check.fine(x, "none", x.spilt(), 0);
        x.rain(40);
        check.fine(x, "10", x.spilt(), 10);
        x.rain(999);
        check.fine(x, "960", x.spilt(), 960);
    }

    private static void byAnotherFlow() {
        check.says("by another flow (1 .. 999)", "Promise 15: DEPTH of a reach. NONE: 1; 2");
        RiverCorset x = Check.of("river flow 5 tape 9;reach a plain wide 3 bank 99;rope k at a pulls 2 bears 99;"
                + "reach b cellar wide 9 bank 9");
        check.fine(x, "depthBy(0, 1)", x.depthBy(0, 1), 1);
        check.fine(x, "depthBy(0, 999)", x.depthBy(0, 999), 999);
        check.fine(x, "depthBy(1, 999): 99 goes on", x.depthBy(1, 999), 11);
        check.refused(x, "depthBy(0, 0)", x.depthBy(0, 0), 2);
        check.refused(x, "depthBy(0, 1000)", x.depthBy(0, 1000), 2);
        check.refused(x, "depthBy(2, 1)", x.depthBy(2, 1), 1);
        check.says("by another flow (1 .. 999)", "Promise 16: HARM of all. NONE: 1 (no RIVER); 2");
        check.fine(x, "harmBy(1)", x.harmBy(1), 0);
        check.fine(x, "harmBy(89): b 9 deep", x.harmBy(89), 0);
        check.fine(x, "harmBy(90): b 10 deep", x.harmBy(90), 18);
        check.fine(x, "harmBy(999): 900 and twice 18", x.harmBy(999), 936);
        check.refused(x, "harmBy(0)", x.harmBy(0), 2);
        check.refused(x, "harmBy(1000)", x.harmBy(1000), 2);
        check.says("by another flow (1 .. 999)", "Promise 17: Ropes that BURST, as bits. NONE: 1 (no RIVER); 2");
        check.fine(x, "bursts(1)", x.bursts(1), 0);
        check.fine(x, "bursts(99)", x.bursts(99), 0);
        check.fine(x, "bursts(100)", x.bursts(100), 1);
        check.fine(x, "bursts(999)", x.bursts(999), 1);
        check.refused(x, "bursts(0)", x.bursts(0), 2);
        check.refused(x, "bursts(1000)", x.bursts(1000), 2);
        check.due("the flow NOW stays", x.size(7), 5);
    }

    /** By WIDTH 27 a rope that bears 36 BURSTS by 37 times 27, which is 999; by 25 and 39 it would be 1,000. */
    private static void leastFlowOfBursting() {
        check.says("Promise 18", "The least flow by which a LACED rope BURSTS; -2 none");
        int[][] rows = {{27, 36, 999}, {25, 39, -2}, {37, 26, 999}, {37, 27, -2}, {39, 99, -2}, {2, 99, 200}, {2, 1, 4}, {30, 1, 60}};
        for (int[] row : rows) {
            RiverCorset x = Check.of("river flow 9 tape 9;reach a plain wide " + (row[0] + 1) + " bank 99;rope k at a pulls 1 bears " + row[1]);
            check.fine(x, "burstsAt by " + row[0] + " and " + row[1], x.burstsAt(0), row[2]);
            if (row[2] > 0) {
                check.fine(x, "bursts by it", x.bursts(row[2]), 1);
                check.fine(x, "bursts by 1 less", x.bursts(row[2] - 1), 0);
            }
        }
        RiverCorset narrow = Check.of("river flow 9 tape 9;reach a plain wide 3 bank 99;rope k at a pulls 2 bears 1");
        check.fine(narrow, "by 1 and 1", narrow.burstsAt(0), 2);
        // DEPTH is 0 or 1 by a flow of 1 (9 less 30 or so).
        RiverCorset wornOut = Check.of("river flow 1 tape 40;reach a plain wide 40 bank 99;rope k at a pulls 1 bears 1");
        wornOut.seed(65536);
        wornOut.year();
        check.fine(wornOut, "WEAR 1: DEPTH 1 is above 0", wornOut.burstsAt(0), 39);
        wornOut.year();
        check.fine(wornOut, "WEAR 2: DEPTH 0 is above -1", wornOut.burstsAt(0), 1);
        check.fine(wornOut, "bursts(1)", wornOut.bursts(1), 1);
        // What a lets go on is 39 at most and 30 by 40: b is 9 deep at most by 4.
        RiverCorset kept = Check.of("river flow 9 tape 9;reach a plain wide 10 bank 3;reach b plain wide 5 bank 99;"
                + "rope k at b pulls 1 bears 8;rope l at b pulls 1 bears 12;loose l;rope m at b pulls 1 bears 9");
        kept.ease(2);
        check.fine(kept, "36 by 4 is 9", kept.burstsAt(0), 36);
        kept.lace(2);
        kept.lace(1);
        check.fine(kept, "18 by 2 is 9", kept.burstsAt(0), 18);
        check.fine(kept, "26 by 2 is 13", kept.burstsAt(1), 26);
        kept.ease(0);
        check.fine(kept, "39 by 3 is 13", kept.burstsAt(1), 39);
        kept.ease(2);
        check.fine(kept, "39 by 4 isn't above 12", kept.burstsAt(1), -2);
    }

    private static void leastFlowOfSpilling() {
        check.says("Promise 19", "The least flow by which it SPILLS at a reach; -2 none");
        int[][] rows = {{27, 36, 999}, {25, 39, -2}, {40, 99, -2}, {3, 1, 6}, {3, 99, 300}, {40, 1, 80}, {37, 26, 999}};
        for (int[] row : rows) {
            RiverCorset x = one(9, "meadow", row[0], row[1]);
            check.fine(x, "spillsAt by " + row[0] + " and " + row[1], x.spillsAt(0), row[2]);
        }
        RiverCorset narrow = Check.of("river flow 9 tape 9;reach a plain wide 3 bank 1;rope k at a pulls 2 bears 1");
        check.fine(narrow, "by 1 and 1", narrow.spillsAt(0), 2);
        // a lets 39 go on at most; of a meadow 30, and half of what SPILLS.
        RiverCorset plain = Check.of("river flow 9 tape 9;reach a plain wide 10 bank 3;reach b plain wide 4 bank 9");
        check.fine(plain, "spillsAt(0)", plain.spillsAt(0), 40);
        check.fine(plain, "spillsAt(1): 40 never comes", plain.spillsAt(1), -2);
        RiverCorset meadow = Check.of("river flow 9 tape 9;reach a meadow wide 10 bank 3;reach b plain wide 4 bank 9");
        // By 50 20 SPILL and 10 come back: 40 go on; by 40 to 49 35 to 44 do: by 45 40.
        check.fine(meadow, "spillsAt(1): of 45 40 come", meadow.spillsAt(1), 45);
        check.fine(meadow, "depthBy(1, 44)", meadow.depthBy(1, 44), 9);
        check.fine(meadow, "depthBy(1, 45)", meadow.depthBy(1, 45), 10);
    }

    private static void greatestSafeFlow() {
        check.says("Promise 20", "The greatest flow by which it SPILLS nowhere; 0 none");
        int[][] rows = {{27, 36, 998}, {25, 39, 999}, {40, 99, 999}, {3, 1, 5}, {3, 99, 299}, {37, 26, 998}};
        for (int[] row : rows) {
            for (String kind : KINDS) {
                RiverCorset x = one(900, kind, row[0], row[1]);
                check.fine(x, "safeFlow by " + row[0] + " and " + row[1], x.safeFlow(), row[2]);
            }
        }
        // It is never 0: by a flow of 1 DEPTH is 1 at most, and no bank is less.
        RiverCorset least = Check.of("river flow 900 tape 9;reach a plain wide 3 bank 1;rope k at a pulls 2 bears 1");
        check.fine(least, "the least there is", least.safeFlow(), 1);
        // By more b is safe again, but a isn't.
        RiverCorset two = Check.of("river flow 9 tape 9;reach a plain wide 10 bank 3;reach b plain wide 4 bank 8");
        check.fine(two, "by the reach that SPILLS first", two.safeFlow(), 35);
        RiverCorset last = Check.of("river flow 9 tape 9;reach a plain wide 4 bank 8;reach b plain wide 10 bank 3");
        check.fine(last, "by the first reach", last.safeFlow(), 35);
    }
}
