import java.util.function.Consumer;
import java.util.function.ToLongFunction;

/**
 * Each call that may be refused, by each of its numbers: what it answers, TROUBLE, and that nothing
 * else has changed; and each call that only asks changes nothing but TROUBLE.
 */
public final class RefusalsTest {
    private static final Check check = new Check();
    private static final Twins twins = new Twins(check);
    private static final int LEAST = Integer.MIN_VALUE;
    private static final int MOST = Integer.MAX_VALUE;
    private static final int LOOSE = 1;
    private static final int BURST = 2;
    private static final int LACED = 3;

    /** Rope 0 and 3 are LACED, 1 is loose, 2 bursts in any YEAR. */
    private static final String BUSY = "river flow 60 tape 9;"
            + "reach up meadow wide 10 bank 5;reach mid cellar wide 8 bank 6;reach low bridge wide 6 bank 9;"
            + "rope r at up pulls 2 bears 40;rope s at up pulls 3 bears 12;rope t at low pulls 5 bears 1;"
            + "rope u at mid pulls 1 bears 50;loose s;hand ann strong 5;hand bob strong 9;"
            + "boat cog wide 5 deep 7;boat raft wide 9 deep 0;mud up deep 7";

    /** No RIVER; the latest call was refused by 4. */
    private static final Consumer<RiverCorset> NO_RIVER = x -> {
        Check.river(x, " x");
        Twins.leaveOnTape(x);
    };

    /** One reach and nothing else. */
    private static final Consumer<RiverCorset> ALONE = x -> {
        Check.river(x, "river flow 60 tape 9;reach up cellar wide 10 bank 5");
        Check.river(x, "river ;");
        Twins.leaveOnTape(x);
    };

    /** Two reaches, and nothing was done yet. */
    private static final Consumer<RiverCorset> FRESH = x -> {
        Check.river(x, "river flow 60 tape 9;reach up cellar wide 10 bank 5;reach low plain wide 3 bank 2;"
                + "rope r at up pulls 2 bears 4");
        x.seed(9);
        Check.river(x, "rope");
        Twins.leaveOnTape(x);
    };

    /** All is full: 16 can be undone, and 3 MARKS are set. */
    private static final Consumer<RiverCorset> FULL = x -> {
        Check.river(x, BUSY);
        x.rain(61);
        x.mark();
        x.year();
        x.seed(7);
        x.mark();
        for (int i = 0; i < 8; i++) {
            x.ease(0);
            x.lace(0);
        }
        x.mark();
        x.rain(70);
        Check.river(x, "river flow 9 tape 9");
        Twins.leaveOnTape(x);
    };

    public static void main(String[] args) {
        theWayIsAsItIsTold();
        withoutRiver();
        oneReachAlone();
        byReachOrRopeOrBoat();
        byFlow();
        byRopesAsTheyAre();
        byParishes();
        byYearsAndSeeds();
        byActs();
        byTape();
        byFault();
        askingChangesNothing();
        check.end("RefusalsTest");
    }

    private static void refused(String call, Consumer<RiverCorset> way, int number, ToLongFunction<RiverCorset> last) {
        twins.refused(call, way, last, -1, number);
    }

    private static void denied(String call, Consumer<RiverCorset> way, int number, ToLongFunction<RiverCorset> last) {
        twins.refused(call, way, last, 0, number);
    }

    private static int bit(boolean answer) {
        return answer ? 1 : 0;
    }

    private static void theWayIsAsItIsTold() {
        check.says("RefusalsTest", "the way that twins go");
        RiverCorset x = new RiverCorset();
        FULL.accept(x);
        check.due("where()", x.where(), 19);
        check.due("ACTS", x.size(9), 16);
        check.due("MARKS", x.size(10), 3);
        check.due("THE TAPE", x.size(11), 20);
        check.due("flow", x.size(7), 70);
        check.due("SEED", x.size(8), 7);
        int[] ropes = {1, 0, 2, 1};
        int[] wears = {1, 0, 0, 1};
        for (int k = 0; k < 4; k++) {
            check.due("rope " + k, x.rope(k, 3), ropes[k]);
            check.due("WEAR " + k, x.rope(k, 4), wears[k]);
        }
    }

    private static void withoutRiver() {
        check.says("Promises 6 to 51, 53", "NONE: 1 (no RIVER)");
        refused("reach(0, 0)", NO_RIVER, 1, x -> x.reach(0, 0));
        refused("rope(0, 0)", NO_RIVER, 1, x -> x.rope(0, 0));
        refused("below()", NO_RIVER, 1, x -> x.below());
        refused("harm()", NO_RIVER, 1, x -> x.harm());
        refused("spills()", NO_RIVER, 1, x -> x.spills());
        refused("outOfLaw()", NO_RIVER, 1, x -> x.outOfLaw());
        refused("narrowest()", NO_RIVER, 1, x -> x.narrowest());
        refused("worn()", NO_RIVER, 1, x -> x.worn());
        refused("spilt()", NO_RIVER, 1, x -> x.spilt());
        refused("depthBy(0, 1)", NO_RIVER, 1, x -> x.depthBy(0, 1));
        refused("harmBy(1)", NO_RIVER, 1, x -> x.harmBy(1));
        refused("harmBy(0), of two numbers the first", NO_RIVER, 1, x -> x.harmBy(0));
        refused("bursts(1)", NO_RIVER, 1, x -> x.bursts(1));
        refused("bursts(1000)", NO_RIVER, 1, x -> x.bursts(1000));
        refused("burstsAt(0)", NO_RIVER, 1, x -> x.burstsAt(0));
        refused("spillsAt(0)", NO_RIVER, 1, x -> x.spillsAt(0));
        refused("safeFlow()", NO_RIVER, 1, x -> x.safeFlow());
        refused("lacing()", NO_RIVER, 1, x -> x.lacing());
        refused("length()", NO_RIVER, 1, x -> x.length());
        refused("lengthSum()", NO_RIVER, 1, x -> x.lengthSum());
        refused("lacings()", NO_RIVER, 1, x -> x.lacings());
        refused("bestChange()", NO_RIVER, 1, x -> x.bestChange());
        refused("changeHarm()", NO_RIVER, 1, x -> x.changeHarm());
        refused("passes(0)", NO_RIVER, 1, x -> x.passes(0));
        refused("stuck(0)", NO_RIVER, 1, x -> x.stuck(0));
        refused("letThrough(0)", NO_RIVER, 1, x -> x.letThrough(0));
        refused("bestBoat()", NO_RIVER, 1, x -> x.bestBoat());
        refused("needs(0)", NO_RIVER, 1, x -> x.needs(0));
        refused("hauls(0)", NO_RIVER, 1, x -> x.hauls(0));
        refused("fits()", NO_RIVER, 1, x -> x.fits());
        refused("could()", NO_RIVER, 1, x -> x.could());
        refused("surely()", NO_RIVER, 1, x -> x.surely());
        refused("ask()", NO_RIVER, 1, x -> x.ask());
        refused("askLeaves()", NO_RIVER, 1, x -> x.askLeaves());
        refused("judge()", NO_RIVER, 1, x -> x.judge());
        refused("rests()", NO_RIVER, 1, x -> x.rests());
        refused("rest()", NO_RIVER, 1, x -> x.rest());
        refused("century(0, 0)", NO_RIVER, 1, x -> x.century(0, 0));
        refused("century(-1, 61)", NO_RIVER, 1, x -> x.century(-1, 61));
        refused("burstBy(0, 0)", NO_RIVER, 1, x -> x.burstBy(0, 0));
        refused("burstBy(-1, 61)", NO_RIVER, 1, x -> x.burstBy(-1, 61));
        refused("yearOf(0, 0)", NO_RIVER, 1, x -> x.yearOf(0, 0));
        refused("firstFlood(0, 0)", NO_RIVER, 1, x -> x.firstFlood(0, 0));
        refused("firstFlood(-1, 61)", NO_RIVER, 1, x -> x.firstFlood(-1, 61));
        refused("lace(0)", NO_RIVER, 1, x -> x.lace(0));
        refused("ease(0)", NO_RIVER, 1, x -> x.ease(0));
        denied("mend(0)", NO_RIVER, 1, x -> bit(x.mend(0)));
        denied("rain(1)", NO_RIVER, 1, x -> bit(x.rain(1)));
        denied("rain(0)", NO_RIVER, 1, x -> bit(x.rain(0)));
        refused("year()", NO_RIVER, 1, x -> x.year());
        denied("seed(0)", NO_RIVER, 1, x -> bit(x.seed(0)));
        denied("seed(-1)", NO_RIVER, 1, x -> bit(x.seed(-1)));
        refused("mark()", NO_RIVER, 1, x -> x.mark());
        denied("back(0)", NO_RIVER, 1, x -> bit(x.back(0)));
        check.says("Promise 52", "false: 6");
        denied("undo()", NO_RIVER, 6, x -> bit(x.undo()));
        check.says("Promise 39", "-10,000: 1 (no RIVER, one reach alone)");
        twins.refused("parish(0, 0, false)", NO_RIVER, x -> x.parish(0, 0, false), -10000, 1);
        twins.refused("parish(9, 9, true)", NO_RIVER, x -> x.parish(9, 9, true), -10000, 1);
    }

    private static void oneReachAlone() {
        check.says("Promise 39", "-10,000: 1 (no RIVER, one reach alone)");
        twins.refused("parish(0, 0, false)", ALONE, x -> x.parish(0, 0, false), -10000, 1);
        twins.refused("parish(5, 5, true)", ALONE, x -> x.parish(5, 5, true), -10000, 1);
        twins.refused("parish(6, -1, true)", ALONE, x -> x.parish(6, -1, true), -10000, 1);
        check.says("Promise 40", "NONE: 1 (likewise)");
        refused("rests()", ALONE, 1, x -> x.rests());
        check.says("Promise 41", "NONE: likewise");
        refused("rest()", ALONE, 1, x -> x.rest());
        check.says("Terms IV", "1 there is none such: a RIVER without ropes, hands, boats");
        refused("reach(1, 0)", ALONE, 1, x -> x.reach(1, 0));
        refused("rope(0, 0)", ALONE, 1, x -> x.rope(0, 0));
        refused("passes(0)", ALONE, 1, x -> x.passes(0));
        refused("stuck(0)", ALONE, 1, x -> x.stuck(0));
        refused("letThrough(0)", ALONE, 1, x -> x.letThrough(0));
        refused("needs(0)", ALONE, 1, x -> x.needs(0));
        refused("hauls(0)", ALONE, 1, x -> x.hauls(0));
        refused("burstsAt(0)", ALONE, 1, x -> x.burstsAt(0));
        refused("yearOf(0, 0)", ALONE, 1, x -> x.yearOf(0, 0));
        refused("lace(0)", ALONE, 1, x -> x.lace(0));
        refused("ease(0)", ALONE, 1, x -> x.ease(0));
        denied("mend(0)", ALONE, 1, x -> bit(x.mend(0)));
    }

    /** FULL has 3 reaches, 4 ropes and 2 boats. */
    private static void byReachOrRopeOrBoat() {
        check.says("Promises 6, 15, 19", "of a reach; NONE: 1");
        for (int r : new int[] {-1, 3, 6, LEAST, MOST}) {
            refused("reach(" + r + ", 0)", FULL, 1, x -> x.reach(r, 0));
            refused("depthBy(" + r + ", 1)", FULL, 1, x -> x.depthBy(r, 1));
            refused("depthBy(" + r + ", 0), of two numbers the first", FULL, 1, x -> x.depthBy(r, 0));
            refused("spillsAt(" + r + ")", FULL, 1, x -> x.spillsAt(r));
        }
        check.says("Promise 6", "0 KIND .. 7 HARM. NONE: 1");
        for (int what : new int[] {-1, 8, LEAST, MOST}) {
            refused("reach(0, " + what + ")", FULL, 1, x -> x.reach(0, what));
        }
        check.says("Promise 7", "0 its reach .. 5 1 if it BURSTS NOW. NONE: 1");
        for (int what : new int[] {-1, 6, LEAST, MOST}) {
            refused("rope(0, " + what + ")", FULL, 1, x -> x.rope(0, what));
        }
        check.says("Promises 7, 18, 31, 32, 44, 46 to 48", "of a rope; NONE (or false): 1");
        for (int k : new int[] {-1, 4, 7, 32, LEAST, MOST}) {
            refused("rope(" + k + ", 0)", FULL, 1, x -> x.rope(k, 0));
            refused("burstsAt(" + k + ")", FULL, 1, x -> x.burstsAt(k));
            refused("needs(" + k + ")", FULL, 1, x -> x.needs(k));
            refused("hauls(" + k + ")", FULL, 1, x -> x.hauls(k));
            refused("yearOf(" + k + ", 0)", FULL, 1, x -> x.yearOf(k, 0));
            refused("yearOf(" + k + ", -1), of two numbers the first", FULL, 1, x -> x.yearOf(k, -1));
            refused("lace(" + k + ")", FULL, 1, x -> x.lace(k));
            refused("ease(" + k + ")", FULL, 1, x -> x.ease(k));
            denied("mend(" + k + ")", FULL, 1, x -> bit(x.mend(k)));
        }
        check.says("Promises 27 to 29", "a boat; NONE: 1");
        for (int b : new int[] {-1, 2, 5, LEAST, MOST}) {
            refused("passes(" + b + ")", FULL, 1, x -> x.passes(b));
            refused("stuck(" + b + ")", FULL, 1, x -> x.stuck(b));
            refused("letThrough(" + b + ")", FULL, 1, x -> x.letThrough(b));
        }
    }

    private static void byFlow() {
        for (int flow : new int[] {0, 1000, -1, LEAST, MOST}) {
            check.says("Promise 15", "by another flow (1 .. 999); NONE: 1; 2");
            refused("depthBy(2, " + flow + ")", FULL, 2, x -> x.depthBy(2, flow));
            check.says("Promise 16", "by another flow (1 .. 999); NONE: 1 (no RIVER); 2");
            refused("harmBy(" + flow + ")", FULL, 2, x -> x.harmBy(flow));
            check.says("Promise 17", "by another flow (1 .. 999); NONE: 1 (no RIVER); 2");
            refused("bursts(" + flow + ")", FULL, 2, x -> x.bursts(flow));
            check.says("Promise 49", "false: 1 (no RIVER); 2 (1 .. 999)");
            denied("rain(" + flow + ")", FULL, 2, x -> bit(x.rain(flow)));
        }
    }

    private static void byRopesAsTheyAre() {
        for (int k : new int[] {LOOSE, BURST}) {
            check.says("Promise 18", "5 (it isn't LACED)");
            refused("burstsAt(" + k + ")", FULL, 5, x -> x.burstsAt(k));
            check.says("Promise 44", "5 (it isn't LACED)");
            refused("yearOf(" + k + ", 0)", FULL, 5, x -> x.yearOf(k, 0));
            refused("yearOf(" + k + ", 65536)", FULL, 5, x -> x.yearOf(k, 65536));
            refused("yearOf(" + k + ", 65537), of two numbers the first", FULL, 2, x -> x.yearOf(k, 65537));
            check.says("Promise 47", "5 (not LACED)");
            refused("ease(" + k + ")", FULL, 5, x -> x.ease(k));
        }
        check.says("Promise 46", "5 (LACED, burst)");
        refused("lace(LACED)", FULL, 5, x -> x.lace(LACED));
        refused("lace(burst)", FULL, 5, x -> x.lace(BURST));
        check.says("Promise 48", "6 (not burst)");
        denied("mend(LACED)", FULL, 6, x -> bit(x.mend(LACED)));
        denied("mend(loose)", FULL, 6, x -> bit(x.mend(LOOSE)));
    }

    private static void byParishes() {
        check.says("Promise 39", "both's pulls (0 .. 5). -10,000: 1; 2");
        for (int pull : new int[] {-1, 6, LEAST, MOST}) {
            twins.refused("parish(" + pull + ", 0, false)", FULL, x -> x.parish(pull, 0, false), -10000, 2);
            twins.refused("parish(" + pull + ", 5, true)", FULL, x -> x.parish(pull, 5, true), -10000, 2);
            twins.refused("parish(0, " + pull + ", false)", FULL, x -> x.parish(0, pull, false), -10000, 2);
            twins.refused("parish(5, " + pull + ", true)", FULL, x -> x.parish(5, pull, true), -10000, 2);
        }
    }

    private static void byYearsAndSeeds() {
        for (int seed : new int[] {-1, 65537, LEAST, MOST}) {
            check.says("Promises 42, 43, 45", "by a SEED (0 .. 65,536); NONE: 1 (no RIVER); 2");
            refused("century(" + seed + ", 1)", FULL, 2, x -> x.century(seed, 1));
            refused("burstBy(" + seed + ", 1)", FULL, 2, x -> x.burstBy(seed, 1));
            refused("firstFlood(" + seed + ", 1)", FULL, 2, x -> x.firstFlood(seed, 1));
            check.says("Promise 44", "by a SEED; NONE: 1; 2; 5");
            refused("yearOf(0, " + seed + ")", FULL, 2, x -> x.yearOf(0, seed));
            check.says("Promise 51", "false: 1 (no RIVER); 2 (0 .. 65,536)");
            denied("seed(" + seed + ")", FULL, 2, x -> bit(x.seed(seed)));
        }
        check.says("Promises 42, 43, 45", "in n YEARS (0 .. 60); NONE: 1 (no RIVER); 2");
        for (int n : new int[] {-1, 61, LEAST, MOST}) {
            refused("century(0, " + n + ")", FULL, 2, x -> x.century(0, n));
            refused("burstBy(0, " + n + ")", FULL, 2, x -> x.burstBy(0, n));
            refused("firstFlood(0, " + n + ")", FULL, 2, x -> x.firstFlood(0, n));
        }
    }

    private static void byActs() {
        check.says("Promise 52", "false: 6");
        denied("undo()", FRESH, 6, x -> bit(x.undo()));
        check.says("Promise 53", "NONE: 1 (no RIVER); 3");
        refused("mark()", FULL, 3, x -> x.mark());
        check.says("Promise 54", "false: 1");
        denied("back(0)", FRESH, 1, x -> bit(x.back(0)));
        for (int mark : new int[] {-1, 3, LEAST, MOST}) {
            denied("back(" + mark + ")", FULL, 1, x -> bit(x.back(mark)));
        }
        for (int mark : new int[] {-1, 1, 2}) {
            denied("back(" + mark + ") of one MARK", FRESH.andThen(x -> x.mark()), 1, x -> bit(x.back(mark)));
        }
    }

    private static void byTape() {
        check.says("Promise 3", "NONE: 2 (THE TAPE stays)");
        for (int n : new int[] {-1, 21, 900, 901, LEAST, MOST}) {
            refused("river(" + n + ")", FULL, 2, x -> x.river(n));
            refused("river(" + n + ") without a RIVER", NO_RIVER, 2, x -> x.river(n));
        }
        refused("river(1) of no bytes", x -> x.size(0), 2, x -> x.river(1));
        check.says("Promise 2", "NONE, and none comes, if there would be more than 900");
        Consumer<RiverCorset> full = FULL.andThen(x -> Check.feed(x, " ".repeat(880)));
        twins.unchanged("feed", full, x -> x.feed(1, 2, 3, 4, 5));
        RiverCorset x = new RiverCorset();
        full.accept(x);
        check.due("THE TAPE", x.size(11), 900);
        check.due("feed", x.feed(1, 2, 3, 4, 5), -1);
        check.due("THE TAPE", x.size(11), 900);
        check.due("trouble(): feed has no number", x.trouble(), 4);
        check.due("where() stays, too", x.where(), 19);
    }

    private static void byFault() {
        check.says("Promise 3", "4 (the RIVER stays)");
        String[] bad = {"", "river", "river flow 1 tape 2;reach z plain wide 3 bank 1;reach z",
            "river flow 1 tape 2;reach z plain wide 3 bank 1;rope y at z pulls 1 bears 1;mud z deep 1;boat x",
            "river flow 901", "river flow 9 tape 9", "reach"};
        for (String text : bad) {
            byFault(text);
        }
    }

    private static void byFault(String text) {
        RiverCorset[] more = {new RiverCorset(), new RiverCorset()};
        RiverCorset[] less = {new RiverCorset(), new RiverCorset()};
        for (int i = 0; i < 2; i++) {
            FULL.accept(more[i]);
            FULL.accept(less[i]);
            more[i].river(0);
            check.due(text, Check.river(more[i], text), -1);
            check.due("trouble() behind " + text, more[i].trouble(), 4);
            check.due("THE TAPE behind " + text, more[i].size(11), 0);
        }
        String besides = "fault.*\n|size 11 .*\n";
        check.same("the RIVER behind " + text, Twins.now(more[0]).replaceAll(besides, ""),
                Twins.now(less[0]).replaceAll(besides, ""));
        check.same("what can be undone behind " + text, Twins.past(more[1]), Twins.past(less[1]));
    }

    private static void askingChangesNothing() {
        check.says("Terms IV", "0 it wasn't");
        asked("below()", x -> x.below());
        asked("harm()", x -> x.harm());
        asked("spills()", x -> x.spills());
        asked("outOfLaw()", x -> x.outOfLaw());
        asked("narrowest()", x -> x.narrowest());
        asked("worn()", x -> x.worn());
        asked("spilt()", x -> x.spilt());
        asked("depthBy(0, 999)", x -> x.depthBy(0, 999));
        asked("harmBy(999)", x -> x.harmBy(999));
        asked("bursts(999)", x -> x.bursts(999));
        asked("burstsAt(0)", x -> x.burstsAt(0));
        asked("spillsAt(2)", x -> x.spillsAt(2));
        asked("safeFlow()", x -> x.safeFlow());
        asked("lacing()", x -> x.lacing());
        asked("length()", x -> x.length());
        asked("lengthSum()", x -> x.lengthSum());
        asked("lacings()", x -> x.lacings());
        asked("bestChange()", x -> x.bestChange());
        asked("changeHarm()", x -> x.changeHarm());
        asked("passes(1)", x -> x.passes(1));
        asked("stuck(1)", x -> x.stuck(1));
        asked("letThrough(1)", x -> x.letThrough(1));
        asked("bestBoat()", x -> x.bestBoat());
        asked("needs(3)", x -> x.needs(3));
        asked("hauls(3)", x -> x.hauls(3));
        asked("fits()", x -> x.fits());
        asked("could()", x -> x.could());
        asked("surely()", x -> x.surely());
        asked("ask()", x -> x.ask());
        asked("askLeaves()", x -> x.askLeaves());
        asked("judge()", x -> x.judge());
        asked("parish(5, 5, false)", x -> x.parish(5, 5, false));
        asked("parish(5, 5, true)", x -> x.parish(5, 5, true));
        asked("rests()", x -> x.rests());
        asked("rest()", x -> x.rest());
        asked("century(0, 60)", x -> x.century(0, 60));
        asked("burstBy(65536, 60)", x -> x.burstBy(65536, 60));
        asked("yearOf(0, 65536)", x -> x.yearOf(0, 65536));
        asked("firstFlood(0, 60)", x -> x.firstFlood(0, 60));
        for (int what = 0; what <= 7; what++) {
            int w = what;
            asked("reach(2, " + what + ")", x -> x.reach(2, w));
        }
        for (int what = 0; what <= 5; what++) {
            int w = what;
            asked("rope(3, " + what + ")", x -> x.rope(3, w));
        }
        asked("seed(7), which it is already", x -> bit(x.seed(7)));
        askingWithoutNumbers();
    }

    /** Asked of one that was asked nothing else, and of one that was asked all by another flow. */
    private static void asked(String call, ToLongFunction<RiverCorset> last) {
        twins.asked(call, FULL, last);
        RiverCorset x = new RiverCorset();
        FULL.accept(x);
        RiverCorset y = new RiverCorset();
        FULL.accept(y);
        y.rain(300);
        y.ease(3);
        Twins.now(y);
        y.undo();
        y.undo();
        check.due(call + " by what is NOW", last.applyAsLong(y), last.applyAsLong(x));
    }

    private static void askingWithoutNumbers() {
        check.says("Terms IV", "of the latest call that may be refused (those of which a number is told here)");
        withoutNumber("fault()", x -> x.fault());
        withoutNumber("where()", x -> x.where());
        withoutNumber("trouble()", x -> x.trouble());
        withoutNumber("led(0)", x -> x.led(0));
        withoutNumber("led(-1)", x -> bit(Check.hasLed(x, -1)));
        withoutNumber("led(2)", x -> bit(Check.hasLed(x, 2)));
        for (int what : new int[] {-1, 0, 3, 11, 12, LEAST, MOST}) {
            withoutNumber("size(" + what + ")", x -> x.size(what));
        }
    }

    private static void withoutNumber(String call, ToLongFunction<RiverCorset> last) {
        RiverCorset x = new RiverCorset();
        FULL.accept(x);
        last.applyAsLong(x);
        check.due("trouble() behind " + call, x.trouble(), 4);
        check.due("where() behind " + call, x.where(), 19);
        x.harm();
        last.applyAsLong(x);
        check.due("trouble() behind harm() and " + call, x.trouble(), 0);
        twins.unchanged(call, FULL, last);
    }
}
