/**
 * Terms III and IV, promises 42 to 57: YEARS, ACTS, what is kept, MARKS, at their bounds. By a SEED of
 * 65,536 the SEED stays so (75 times it and 74 are 75 times 65,537 less 1), and the flow of each YEAR is
 * that told less 8 (65,536 mod 61 is 22, less 30).
 */
public final class YearsBoundsTest {
    private static final Check check = new Check();
    private static final int STILL = 65536;

    public static void main(String[] args) {
        seedBecomes();
        flowOfYears();
        flowIsOneAtLeast();
        burstAllAtOnce();
        harmByThoseStillLaced();
        wearOfThoseStillLaced();
        noYears();
        sixtyYears();
        fromNow();
        burstBehindThem();
        yearsOfBursting();
        floodInTheLastYear();
        floodWithoutHarm();
        acts();
        mending();
        raining();
        seeding();
        sixteenAreKept();
        ringOfKeptOnes();
        undoIsOfAll();
        refusedOnesAreNotKept();
        threeMarks();
        backToMarks();
        ledRopes();
        sizes();
        troubles();
        check.end("YearsBoundsTest");
    }

    /** The SEED that becomes so much by one DRAW. */
    private static int seedFor(int draw) {
        for (int seed = 0; seed <= 65536; seed++) {
            if ((75L * seed + 74) % 65537 == draw) {
                return seed;
            }
        }
        throw new IllegalStateException("no SEED for " + draw);
    }

    private static RiverCorset plain(int flow, int wide, int bank) {
        return Check.of("river flow " + flow + " tape 40;reach a plain wide " + wide + " bank " + bank);
    }

    // ---- a YEAR

    private static void seedBecomes() {
        check.says("Terms III", "SEED becomes (75 times SEED and 74) mod 65,537");
        int[][] rows = {{0, 74}, {1, 149}, {872, 65474}, {873, 12}, {65535, 65461}, {65536, 65536}, {seedFor(0), 0}};
        RiverCorset x = plain(100, 9, 99);
        for (int[] row : rows) {
            x.seed(row[0]);
            check.fine(x, "year()", x.year(), 0);
            check.due("SEED behind " + row[0], x.size(8), row[1]);
        }
        x.seed(0);
        int[] seeds = {74, 5624, 28652, 51790};
        for (int seed : seeds) {
            x.year();
            check.due("SEED", x.size(8), seed);
        }
    }

    private static void flowOfYears() {
        check.says("Terms III", "flow is that told and a DRAW mod 61, less 30");
        RiverCorset x = plain(900, 9, 99);
        int[][] rows = {{0, 870}, {1, 871}, {30, 900}, {60, 930}, {61, 870}, {121, 930}, {122, 870}, {65536, 892}};
        for (int[] row : rows) {
            x.rain(5);
            x.seed(seedFor(row[0]));
            x.year();
            check.due("flow by a DRAW of " + row[0], x.size(7), row[1]);
        }
        check.due("as told, not as NOW", x.size(0), 900);
    }

    private static void flowIsOneAtLeast() {
        check.says("Terms III", "(1 at least)");
        int[][] rows = {{32, 2}, {31, 1}, {30, 1}, {29, 1}, {1, 1}};
        for (int[] row : rows) {
            RiverCorset x = plain(row[0], 9, 99);
            x.seed(seedFor(0));
            x.year();
            check.due("flow of " + row[0] + " less 30", x.size(7), row[1]);
            x.seed(seedFor(60));
            x.year();
            check.due("flow of " + row[0] + " and 30", x.size(7), row[0] + 30);
        }
        // By 1 it is 1 deep where it is 1 wide.
        RiverCorset x = Check.of("river flow 1 tape 40;reach a plain wide 3 bank 1;rope k at a pulls 2 bears 1");
        check.fine(x, "century by flows of 1", x.century(seedFor(0), 1), 0);
        check.fine(x, "no rope bursts by 1", x.burstBy(seedFor(0), 1), 0);
    }

    private static void burstAllAtOnce() {
        check.says("Terms III", "all LACED ropes that BURST by it are burst then, all at once (DEPTHS with all of them LACED still)");
        // 80: 4 wide 20 deep; without k 8 wide 10 deep, which l would bear.
        RiverCorset x = Check.of("river flow 88 tape 40;reach a plain wide 12 bank 99;rope k at a pulls 4 bears 15;"
                + "rope l at a pulls 4 bears 19;rope m at a pulls 1 bears 99;loose m");
        check.fine(x, "yearOf(0)", x.yearOf(0, STILL), 1);
        check.fine(x, "yearOf(1)", x.yearOf(1, STILL), 1);
        check.fine(x, "burstBy", x.burstBy(STILL, 1), 3);
        x.seed(STILL);
        x.year();
        check.fine(x, "k is burst", x.rope(0, 3), 2);
        check.fine(x, "l is burst", x.rope(1, 3), 2);
        check.fine(x, "m is loose", x.rope(2, 3), 0);
        check.fine(x, "WIDTH", x.reach(0, 3), 12);
        // Just what it bears: 20.
        RiverCorset y = Check.of("river flow 88 tape 40;reach a plain wide 12 bank 99;rope k at a pulls 4 bears 15;rope l at a pulls 4 bears 20");
        check.fine(y, "l bears 20", y.burstBy(STILL, 1), 1);
        // Those burst are burst till they are mended; a loose one never bursts.
        check.fine(x, "in sixty YEARS", x.burstBy(STILL, 60), 3);
    }

    private static void harmByThoseStillLaced() {
        check.says("Terms III", "then HARM is done by those still LACED");
        // 80 by 4 is 20, by 8 is 10: bank 10, so that nothing SPILLS behind the bursting.
        RiverCorset x = Check.of("river flow 88 tape 40;reach a cellar wide 8 bank 10;rope k at a pulls 4 bears 15");
        check.fine(x, "century of a YEAR", x.century(STILL, 1), 0);
        check.fine(x, "firstFlood of it", x.firstFlood(STILL, 1), 0);
        x.seed(STILL);
        check.fine(x, "year()", x.year(), 0);
        RiverCorset y = Check.of("river flow 88 tape 40;reach a cellar wide 8 bank 10;rope k at a pulls 4 bears 20");
        // It holds: 40 SPILL.
        check.fine(y, "century of a YEAR in which it holds", y.century(STILL, 1), 80);
        check.fine(y, "firstFlood of it", y.firstFlood(STILL, 1), 1);
        y.seed(STILL);
        check.fine(y, "year()", y.year(), 80);
        // WEAR 1 then: 20 is above 19.
        check.fine(y, "year() of bursting", y.year(), 0);
    }

    private static void wearOfThoseStillLaced() {
        check.says("Terms III", "then WEAR of each of these is 1 more");
        RiverCorset x = Check.of("river flow 88 tape 40;reach a plain wide 12 bank 99;rope k at a pulls 4 bears 15;"
                + "rope l at a pulls 3 bears 90;rope m at a pulls 1 bears 99;loose m");
        x.seed(STILL);
        // 80 by 5 is 16: k is burst in the first YEAR.
        x.year();
        x.year();
        check.fine(x, "WEAR of the burst one", x.rope(0, 4), 0);
        check.fine(x, "WEAR of the LACED one", x.rope(1, 4), 2);
        check.fine(x, "WEAR of the loose one", x.rope(2, 4), 0);
        x.rain(5);
        x.rain(6);
        check.fine(x, "RAIN wears none", x.rope(1, 4), 2);
    }

    // ---- Promises 42 to 45

    private static void noYears() {
        check.says("Promises 42, 43, 45", "n YEARS (0 .. 60): none");
        RiverCorset x = Check.of("river flow 88 tape 40;reach a cellar wide 8 bank 1;rope k at a pulls 4 bears 1");
        check.fine(x, "century(0, 0)", x.century(0, 0), 0);
        check.fine(x, "burstBy(0, 0)", x.burstBy(0, 0), 0);
        check.fine(x, "firstFlood(0, 0)", x.firstFlood(0, 0), 0);
        check.fine(x, "century(65536, 0)", x.century(65536, 0), 0);
        check.refused(x, "century(0, -1)", x.century(0, -1), 2);
        check.refused(x, "burstBy(0, -1)", x.burstBy(0, -1), 2);
        check.refused(x, "firstFlood(0, -1)", x.firstFlood(0, -1), 2);
    }

    /** 123 by 3 is 41, and a rope that bears 99 bursts by it when its WEAR is 59: in the 60th YEAR. */
    private static void sixtyYears() {
        check.says("Promise 44", "In which YEAR (1 .. 60) by a SEED, from NOW, a rope bursts; 0 in none");
        RiverCorset x = Check.of("river flow 131 tape 40;reach a plain wide 4 bank 40;rope k at a pulls 1 bears 99");
        check.fine(x, "yearOf", x.yearOf(0, STILL), 60);
        check.fine(x, "burstBy(59)", x.burstBy(STILL, 59), 0);
        check.fine(x, "burstBy(60)", x.burstBy(STILL, 60), 1);
        check.says("Promise 42", "HARM of all in n YEARS (0 .. 60)");
        check.fine(x, "century(1)", x.century(STILL, 1), 3);
        check.fine(x, "century(59)", x.century(STILL, 59), 177);
        check.fine(x, "century(60): loose it is 30 deep", x.century(STILL, 60), 177);
        check.refused(x, "century(61)", x.century(STILL, 61), 2);
        check.refused(x, "burstBy(61)", x.burstBy(STILL, 61), 2);
        check.refused(x, "firstFlood(61)", x.firstFlood(STILL, 61), 2);
        RiverCorset y = Check.of("river flow 128 tape 40;reach a plain wide 4 bank 40;rope k at a pulls 1 bears 99");
        // 120 by 3 is 40: it would be in the 61st.
        check.says("Promise 44", "0 in none");
        check.fine(y, "yearOf", y.yearOf(0, STILL), 0);
        check.fine(y, "burstBy(60)", y.burstBy(STILL, 60), 0);
        y.seed(STILL);
        y.year();
        check.fine(y, "yearOf a YEAR later", y.yearOf(0, STILL), 60);
        y.year();
        check.fine(y, "yearOf two YEARS later", y.yearOf(0, STILL), 59);
        check.says("Promise 42", "by a SEED (0 .. 65,536)");
        RiverCorset z = plain(108, 10, 9);
        // 100 by 10 is 10: 10 SPILL each YEAR.
        check.fine(z, "century(65536, 60)", z.century(65536, 60), 600);
        // SEED 0: 108 and 13 less 30 is 91: 9 deep.
        check.fine(z, "century(0, 1)", z.century(0, 1), 0);
        check.refused(z, "century(65537, 60)", z.century(65537, 60), 2);
        check.refused(z, "century(-1, 60)", z.century(-1, 60), 2);
        check.refused(z, "burstBy(65537, 60)", z.burstBy(65537, 60), 2);
        check.refused(z, "burstBy(-1, 60)", z.burstBy(-1, 60), 2);
        check.refused(z, "firstFlood(65537, 60)", z.firstFlood(65537, 60), 2);
        check.refused(z, "firstFlood(-1, 60)", z.firstFlood(-1, 60), 2);
    }

    private static void fromNow() {
        check.says("Promise 42", "from NOW");
        RiverCorset x = Check.of("river flow 108 tape 40;reach a plain wide 10 bank 9;rope k at a pulls 1 bears 20");
        // LACED 100 by 9 is 11: 18 SPILL, and it bursts when 20 less WEAR is less than 11: WEAR 10, in the 11th.
        check.fine(x, "yearOf", x.yearOf(0, STILL), 11);
        check.fine(x, "century(12)", x.century(STILL, 12), 10 * 18 + 2 * 10);
        x.ease(0);
        check.fine(x, "century(12) with it loose", x.century(STILL, 12), 120);
        check.refused(x, "yearOf a loose one", x.yearOf(0, STILL), 5);
        x.lace(0);
        x.rain(1);
        check.fine(x, "century(12) whatever the flow NOW", x.century(STILL, 12), 200);
        x.seed(STILL);
        x.year();
        check.fine(x, "yearOf by WEAR 1", x.yearOf(0, STILL), 10);
        check.fine(x, "century(12) by WEAR 1", x.century(STILL, 12), 9 * 18 + 3 * 10);
        check.due("SEED stays", x.size(8), STILL);
        x.seed(7);
        x.century(STILL, 12);
        x.yearOf(0, STILL);
        check.due("SEED stays", x.size(8), 7);
        check.fine(x, "WEAR stays", x.rope(0, 4), 1);
        check.fine(x, "it stays LACED", x.rope(0, 3), 1);
    }

    private static void burstBehindThem() {
        check.says("Promise 43", "Ropes that are burst behind them, as bits");
        RiverCorset x = Check.of("river flow 88 tape 40;reach a plain wide 40 bank 99;reach b plain wide 11 bank 99"
                + Check.many(";rope # at a pulls 1 bears 99", 6) + ";rope z at b pulls 1 bears 8");
        // 80 by 10 is 8: z holds a YEAR, then it bears 7.
        check.fine(x, "burstBy(1)", x.burstBy(STILL, 1), 0);
        check.fine(x, "burstBy(2) the last of seven", x.burstBy(STILL, 2), 64);
        x.seed(STILL);
        x.year();
        x.year();
        check.fine(x, "burstBy(0): it is burst NOW", x.burstBy(STILL, 0), 64);
        check.fine(x, "burstBy(1)", x.burstBy(STILL, 1), 64);
        check.refused(x, "yearOf a burst one", x.yearOf(6, STILL), 5);
        x.mend(6);
        check.fine(x, "burstBy(0): it is mended", x.burstBy(STILL, 0), 0);
    }

    private static void yearsOfBursting() {
        check.says("Promise 44", "In which YEAR (1 .. 60) by a SEED: the first and each next one");
        // 80 by 10 is 8: by what it bears, 7, 8, 9 .., it bursts in YEAR 1, 2, 3 ..
        for (int bears = 1; bears <= 67; bears++) {
            RiverCorset x = Check.of("river flow 88 tape 40;reach a plain wide 11 bank 99;rope k at a pulls 1 bears " + bears);
            int year = Math.max(1, bears - 6);
            check.fine(x, "yearOf by " + bears, x.yearOf(0, STILL), year > 60 ? 0 : year);
        }
        RiverCorset x = Check.of("river flow 88 tape 40;reach a plain wide 11 bank 99;rope k at a pulls 1 bears 9");
        check.refused(x, "yearOf(0, -1)", x.yearOf(0, -1), 2);
        check.refused(x, "yearOf(0, 65537)", x.yearOf(0, 65537), 2);
        check.refused(x, "yearOf(1, 0)", x.yearOf(1, 0), 1);
        check.refused(x, "yearOf(-1, 0)", x.yearOf(-1, 0), 1);
        // SEED 0: 88 and 13, 12, 43 less 30: 71, 70, 101.
        check.fine(x, "yearOf(0, 0): 7, 7, 10", x.yearOf(0, 0), 3);
    }

    /** It SPILLS by a DRAW of 60 mod 61 alone: by a flow of 130, 13 wide with a bank of 9. */
    private static void floodInTheLastYear() {
        check.says("Promise 45", "In which of them (1, 2, ..) it SPILLED first; 0 never");
        RiverCorset x = plain(100, 13, 9);
        int[] found = new int[61];
        for (int seed = 0; seed <= 65536 && (found[60] == 0 || found[1] == 0 || found[2] == 0); seed++) {
            long draw = seed;
            int year = 0;
            for (int i = 1; i <= 60 && year == 0; i++) {
                draw = (75 * draw + 74) % 65537;
                year = draw % 61 == 60 ? i : 0;
            }
            found[year] = seed;
        }
        for (int year : new int[] {1, 2, 60}) {
            check.fine(x, "firstFlood in YEAR " + year, x.firstFlood(found[year], 60), year);
            check.fine(x, "firstFlood just so far", x.firstFlood(found[year], year), year);
            check.fine(x, "century just so far", x.century(found[year], year), 13);
            check.fine(x, "firstFlood ahead of it", x.firstFlood(found[year], year - 1), 0);
            check.fine(x, "century ahead of it", x.century(found[year], year - 1), 0);
        }
        check.fine(x, "never", x.firstFlood(STILL, 60), 0);
    }

    private static void floodWithoutHarm() {
        check.says("Promise 45", "it SPILLED: on a meadow, too");
        RiverCorset x = Check.of("river flow 108 tape 40;reach a meadow wide 10 bank 9");
        check.fine(x, "century", x.century(STILL, 60), 0);
        check.fine(x, "firstFlood", x.firstFlood(STILL, 60), 1);
        RiverCorset one = Check.of("river flow 18 tape 40;reach a plain wide 3 bank 9;rope k at a pulls 2 bears 99");
        check.fine(one, "firstFlood by a SPILL of 1", one.firstFlood(STILL, 1), 1);
        check.fine(one, "century by a SPILL of 1", one.century(STILL, 1), 1);
        RiverCorset last = Check.of("river flow 108 tape 40;reach a plain wide 40 bank 9;reach b meadow wide 10 bank 9");
        check.fine(last, "firstFlood at the last reach", last.firstFlood(STILL, 1), 1);
    }

    // ---- ACTS

    private static void acts() {
        check.says("Promise 46", "LACE: WIDTH there then. NONE: 1; 5 (LACED, burst)");
        RiverCorset x = Check.of("river flow 88 tape 40;reach a plain wide 9 bank 99;reach b plain wide 12 bank 99;"
                + "rope k at b pulls 4 bears 9;rope l at b pulls 8 bears 9;rope m at a pulls 1 bears 99;loose k;loose l");
        check.fine(x, "lace(0)", x.lace(0), 8);
        check.fine(x, "LACED", x.rope(0, 3), 1);
        check.fine(x, "lace(1): 1 at least", x.lace(1), 1);
        check.refused(x, "lace(1) again", x.lace(1), 5);
        check.refused(x, "lace(3)", x.lace(3), 1);
        check.refused(x, "lace(-1)", x.lace(-1), 1);
        check.due("ACTS", x.size(9), 2);
        check.says("Promise 47", "EASE: WIDTH there then. NONE: 1; 5 (not LACED)");
        check.fine(x, "ease(0)", x.ease(0), 4);
        check.fine(x, "loose", x.rope(0, 3), 0);
        check.refused(x, "ease(0) again", x.ease(0), 5);
        check.fine(x, "ease(1)", x.ease(1), 12);
        check.fine(x, "ease(2)", x.ease(2), 9);
        check.refused(x, "ease(3)", x.ease(3), 1);
        check.refused(x, "ease(-1)", x.ease(-1), 1);
        check.due("ACTS", x.size(9), 5);
        check.says("Promise 50", "YEAR: HARM of all. NONE: 1 (no RIVER)");
        RiverCorset y = Check.of("river flow 108 tape 40;reach a plain wide 10 bank 9;reach b bridge wide 9 bank 9");
        y.seed(STILL);
        // 100: a 10 deep, 10 SPILL; 90: b 10 deep, 9 SPILL and 20.
        check.fine(y, "year()", y.year(), 39);
        check.due("flow NOW", y.size(7), 100);
        check.fine(y, "harm() by it", y.harm(), 39);
        check.due("ACTS", y.size(9), 1);
        RiverCorset none = new RiverCorset();
        check.refused(none, "year() without a RIVER", none.year(), 1);
    }

    private static void mending() {
        check.says("Promise 48", "MEND: true; false: 1; 6 (not burst)");
        RiverCorset x = Check.of("river flow 88 tape 40;reach a plain wide 11 bank 99;rope k at a pulls 1 bears 9;rope l at a pulls 1 bears 99;loose l");
        check.refused(x, "mend(0) LACED", x.mend(0), 6);
        check.refused(x, "mend(1) loose", x.mend(1), 6);
        check.refused(x, "mend(2)", x.mend(2), 1);
        check.refused(x, "mend(-1)", x.mend(-1), 1);
        x.seed(STILL);
        x.year();
        x.year();
        check.fine(x, "WEAR 2 in the third YEAR", x.rope(0, 4), 2);
        x.year();
        check.fine(x, "burst", x.rope(0, 3), 2);
        check.fine(x, "its WEAR", x.rope(0, 4), 2);
        check.says("Terms III", "MEND a burst one (it is loose then, WEAR 0)");
        check.fine(x, "mend(0)", x.mend(0));
        check.fine(x, "loose", x.rope(0, 3), 0);
        check.fine(x, "WEAR 0", x.rope(0, 4), 0);
        check.fine(x, "WIDTH stays", x.reach(0, 3), 11);
        check.refused(x, "mend(0) again", x.mend(0), 6);
        check.fine(x, "lace(0) then", x.lace(0), 10);
        check.fine(x, "yearOf anew", x.yearOf(0, STILL), 3);
    }

    private static void raining() {
        check.says("Promise 49", "RAIN: true; false: 1 (no RIVER); 2 (1 .. 999)");
        RiverCorset x = plain(900, 9, 99);
        check.fine(x, "rain(1)", x.rain(1));
        check.due("flow", x.size(7), 1);
        check.refused(x, "rain(0)", x.rain(0), 2);
        check.fine(x, "rain(999)", x.rain(999));
        check.due("flow", x.size(7), 999);
        check.refused(x, "rain(1000)", x.rain(1000), 2);
        check.due("flow stays", x.size(7), 999);
        check.due("flow as told", x.size(0), 900);
        check.due("ACTS", x.size(9), 2);
        check.fine(x, "rain(999), as it is already", x.rain(999));
        check.due("it is an ACT, too", x.size(9), 3);
    }

    private static void seeding() {
        check.says("Promise 51", "SEED (no ACT): true; false: 1 (no RIVER); 2 (0 .. 65,536)");
        RiverCorset x = plain(900, 9, 99);
        check.fine(x, "seed(65536)", x.seed(65536));
        check.due("SEED", x.size(8), 65536);
        check.refused(x, "seed(65537)", x.seed(65537), 2);
        check.refused(x, "seed(-1)", x.seed(-1), 2);
        check.due("SEED stays", x.size(8), 65536);
        check.fine(x, "seed(0)", x.seed(0));
        check.due("SEED", x.size(8), 0);
        check.due("no ACT", x.size(9), 0);
        check.refused(x, "undo()", x.undo(), 6);
        check.due("SEED stays", x.size(8), 0);
    }

    private static void sixteenAreKept() {
        check.says("Terms III", "UNDO (16 are kept)");
        for (int acts : new int[] {0, 1, 15, 16, 17, 18, 31, 32, 33, 100}) {
            RiverCorset x = plain(900, 9, 99);
            for (int i = 1; i <= acts; i++) {
                x.rain(i);
            }
            int kept = Math.min(16, acts);
            check.due("ACTS that can be undone of " + acts, x.size(9), kept);
            for (int i = 1; i <= kept; i++) {
                check.fine(x, "undo() " + i + " of " + acts, x.undo());
                check.due("flow", x.size(7), acts == i ? 900 : acts - i);
                check.due("ACTS left", x.size(9), kept - i);
            }
            check.refused(x, "undo() more of " + acts, x.undo(), 6);
            check.due("flow stays", x.size(7), acts <= 16 ? 900 : acts - 16);
        }
    }

    /** Undone and done again, the oldest ones go first, wherever they stand. */
    private static void ringOfKeptOnes() {
        check.says("Terms III", "UNDO: as ahead of the latest (16 are kept): done and undone in turns");
        RiverCorset x = plain(900, 9, 99);
        java.util.ArrayDeque<Integer> due = new java.util.ArrayDeque<>();
        int flow = 900;
        int calls = 0;
        for (int turn = 1; turn <= 9; turn++) {
            for (int i = 0; i < 3 * turn % 20 + 1; i++) {
                due.push(flow);
                flow = ++calls;
                x.rain(flow);
            }
            while (due.size() > 16) {
                due.removeLast();
            }
            check.due("ACTS", x.size(9), due.size());
            for (int i = 0; i < 2 * turn && !due.isEmpty(); i++) {
                check.fine(x, "undo()", x.undo());
                flow = due.pop();
                check.due("flow", x.size(7), flow);
            }
            check.due("ACTS", x.size(9), due.size());
        }
    }

    private static void undoIsOfAll() {
        check.says("Terms III", "UNDO: all, SEED too, is as ahead of the latest");
        RiverCorset x = Check.of("river flow 88 tape 40;reach a plain wide 11 bank 99;rope k at a pulls 1 bears 7;"
                + "rope l at a pulls 1 bears 99;loose l");
        x.seed(5);
        x.lace(1);
        x.seed(STILL);
        x.year();
        // 80 by 9 is 8: k is burst.
        x.mend(0);
        x.lace(0);
        x.ease(1);
        x.rain(7);
        state("behind all", x, 1, 0, 0, 1, 7, STILL);
        x.undo();
        state("without RAIN", x, 1, 0, 0, 1, 80, STILL);
        x.undo();
        state("without EASE", x, 1, 0, 1, 1, 80, STILL);
        x.undo();
        state("without LACE", x, 0, 0, 1, 1, 80, STILL);
        x.undo();
        state("without MEND", x, 2, 0, 1, 1, 80, STILL);
        x.undo();
        state("without YEAR", x, 1, 0, 1, 0, 88, STILL);
        x.undo();
        state("without the first LACE", x, 1, 0, 0, 0, 88, 5);
        check.refused(x, "undo() more", x.undo(), 6);
        state("refused", x, 1, 0, 0, 0, 88, 5);
        x.seed(0);
        x.year();
        check.due("SEED of a YEAR", x.size(8), 74);
        x.undo();
        check.due("SEED ahead of the YEAR", x.size(8), 0);
    }

    private static void state(String what, RiverCorset x, int k, int wearOfK, int l, int wearOfL, int flow, int seed) {
        check.fine(x, "k " + what, x.rope(0, 3), k);
        check.fine(x, "WEAR of k " + what, x.rope(0, 4), wearOfK);
        check.fine(x, "l " + what, x.rope(1, 3), l);
        check.fine(x, "WEAR of l " + what, x.rope(1, 4), wearOfL);
        check.due("flow " + what, x.size(7), flow);
        check.due("SEED " + what, x.size(8), seed);
    }

    private static void refusedOnesAreNotKept() {
        check.says("Promise 56", "9 ACTS that can be undone: not those refused, nor what is no ACT");
        RiverCorset x = Check.of("river flow 88 tape 40;reach a plain wide 11 bank 99;rope k at a pulls 1 bears 7");
        x.lace(0);
        x.lace(1);
        x.ease(1);
        x.mend(0);
        x.rain(0);
        x.seed(9);
        x.mark();
        x.harm();
        x.century(0, 60);
        check.due("ACTS", x.size(9), 0);
        x.ease(0);
        x.ease(0);
        check.due("ACTS", x.size(9), 1);
        check.fine(x, "undo()", x.undo());
        check.fine(x, "LACED", x.rope(0, 3), 1);
        check.due("undo() is no ACT", x.size(9), 0);
    }

    private static void threeMarks() {
        check.says("Promise 53", "A MARK: its number. NONE: 1 (no RIVER); 3");
        RiverCorset none = new RiverCorset();
        check.refused(none, "mark() without a RIVER", none.mark(), 1);
        check.due("MARKS", none.size(10), 0);
        RiverCorset x = plain(88, 9, 99);
        check.says("Terms III", "MARKS: up to 3");
        for (int mark = 0; mark < 3; mark++) {
            check.due("MARKS", x.size(10), mark);
            check.refused(x, "back(" + mark + ") of none such", x.back(mark), 1);
            check.fine(x, "mark()", x.mark(), mark);
            check.fine(x, "back(" + mark + ")", x.back(mark));
        }
        for (int i = 0; i < 3; i++) {
            check.refused(x, "mark() more", x.mark(), 3);
            check.due("MARKS", x.size(10), 3);
        }
        x.rain(5);
        x.undo();
        check.due("MARKS behind undoing", x.size(10), 3);
        x.back(0);
        check.refused(x, "mark() behind back()", x.mark(), 3);
    }

    private static void backToMarks() {
        check.says("Promise 54", "All is as by a MARK (all MARKS stay): true; false: 1");
        RiverCorset x = Check.of("river flow 88 tape 40;reach a plain wide 11 bank 99;rope k at a pulls 1 bears 7;"
                + "rope l at a pulls 1 bears 99;loose l");
        x.mark();
        x.lace(1);
        x.seed(STILL);
        x.year();
        x.mark();
        x.mend(0);
        x.rain(999);
        x.seed(1);
        x.mark();
        x.lace(0);
        int[] order = {0, 1, 2, 1, 0, 2, 2, 0};
        for (int mark : order) {
            check.fine(x, "back(" + mark + ")", x.back(mark));
            check.due("MARKS stay", x.size(10), 3);
            check.says("Terms III", "gone back to one, nothing can be undone");
            check.due("ACTS", x.size(9), 0);
            check.refused(x, "undo()", x.undo(), 6);
            check.says("Promise 54", "All is as by a MARK (all MARKS stay): true; false: 1");
            if (mark == 0) {
                state("by MARK 0", x, 1, 0, 0, 0, 88, 0);
            } else if (mark == 1) {
                state("by MARK 1", x, 2, 0, 1, 1, 80, STILL);
            } else {
                state("by MARK 2", x, 0, 0, 1, 1, 999, 1);
            }
            // What is done behind it leaves the MARK as it is, and can be undone.
            x.seed(9);
            x.year();
            x.rain(5);
            check.due("ACTS", x.size(9), 2);
            check.fine(x, "undo()", x.undo());
        }
        check.refused(x, "back(3)", x.back(3), 1);
        check.refused(x, "back(-1)", x.back(-1), 1);
        check.due("refused, it leaves what can be undone", x.size(9), 1);
    }

    // ---- what is told

    private static void ledRopes() {
        check.says("Promise 55", "The i-th rope, by numbers, that is LACED NOW");
        RiverCorset x = Check.of("river flow 88 tape 40;reach a plain wide 40 bank 99" + Check.many(";rope # at a pulls 1 bears 9", 7)
                + ";loose l;loose o");
        int[] led = {1, 2, 4, 5, 6};
        for (int i = 0; i < 5; i++) {
            check.due("led(" + i + ")", x.led(i), led[i]);
        }
        check.says("Promise 55", "NoSuchElementException if there is none such");
        for (int i : new int[] {5, 6, 7, -1, Integer.MIN_VALUE, Integer.MAX_VALUE}) {
            check.due("led(" + i + ")", Check.hasLed(x, i), false);
        }
        x.lace(0);
        x.lace(3);
        check.due("led(6)", x.led(6), 6);
        check.due("led(7)", Check.hasLed(x, 7), false);
        for (int k = 0; k < 7; k++) {
            x.ease(k);
        }
        check.due("led(0) of none", Check.hasLed(x, 0), false);
        RiverCorset burst = Check.of("river flow 88 tape 40;reach a plain wide 11 bank 99;rope k at a pulls 1 bears 1;rope l at a pulls 1 bears 99");
        burst.seed(STILL);
        burst.year();
        check.due("led(0): k is burst", burst.led(0), 1);
        check.due("led(1)", Check.hasLed(burst, 1), false);
        check.due("led(0) of no RIVER", Check.hasLed(new RiverCorset(), 0), false);
    }

    private static void sizes() {
        check.says("Promise 56", "0 flow as told, 1 tape, 2 reaches, .. 11 bytes of THE TAPE");
        RiverCorset x = Check.of("river flow 88 tape 40" + Check.many(";reach # plain wide 40 bank 99", 6)
                + Check.many(";rope b# at l pulls 1 bears 99", 7) + Check.many(";hand h# strong 1", 6) + Check.many(";boat s# wide 1 deep 1", 5)
                + Check.many(";mud # deep 1", 6));
        x.seed(STILL);
        x.year();
        x.mark();
        x.mark();
        x.feed(0, 0, 0, 0, 0);
        int[] sizes = {88, 40, 6, 7, 6, 5, 6, 80, STILL, 1, 2, 20};
        for (int what = 0; what <= 11; what++) {
            check.due("size(" + what + ")", x.size(what), sizes[what]);
        }
        check.says("Promise 56", "NONE for others");
        for (int what : new int[] {-1, 12, Integer.MIN_VALUE, Integer.MAX_VALUE}) {
            check.due("size(" + what + ")", x.size(what), -1);
        }
        check.says("Promise 56", "0 for what there isn't");
        RiverCorset least = plain(88, 9, 9);
        for (int what : new int[] {3, 4, 5, 6, 8, 9, 10, 11}) {
            check.due("size(" + what + ") of a RIVER with one reach", least.size(what), 0);
        }
        RiverCorset none = new RiverCorset();
        for (int what = 0; what <= 11; what++) {
            check.due("size(" + what + ") of no RIVER", none.size(what), 0);
        }
        check.due("size(12) of no RIVER", none.size(12), -1);
        none.feed(0, 0, 0, 0, 0);
        check.due("size(11) of no RIVER", none.size(11), 20);
    }

    private static void troubles() {
        check.says("Promise 57", "TROUBLE of the latest call that may be refused");
        RiverCorset x = new RiverCorset();
        check.due("of none", x.trouble(), 0);
        x.harm();
        check.due("1 there is none such", x.trouble(), 1);
        check.due("it stays", x.trouble(), 1);
        x.river(1);
        check.due("2 a number", x.trouble(), 2);
        x.river(0);
        check.due("4 a FAULT", x.trouble(), 4);
        Check.river(x, "river flow 88 tape 40;reach a plain wide 11 bank 99;rope k at a pulls 1 bears 9");
        check.due("0 it wasn't", x.trouble(), 0);
        x.lace(0);
        check.due("5 not so", x.trouble(), 5);
        x.mend(0);
        check.due("6 there is none", x.trouble(), 6);
        for (int i = 0; i < 4; i++) {
            x.mark();
        }
        check.due("3 no room", x.trouble(), 3);
        x.worn();
        check.due("0 it wasn't", x.trouble(), 0);
        x.undo();
        check.due("6 nothing to undo", x.trouble(), 6);
        x.lacing();
        check.due("0: -2 isn't refused", x.trouble(), 0);
    }
}
