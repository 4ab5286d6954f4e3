/** Promises 1 and 6 to 57, each by answers worked out by hand from the document. */
public final class PromisesTest {
    private static final Check check = new Check();

    /**
     * NOW: WIDTHS 8, 8, 5; WATER 60, 52, 52; DEPTHS 7, 6, 10; SPILLS 16, 0, 5; below 47.
     * Of a meadow 8 of 16 come back.
     */
    private static final String MILL = "river flow 60 tape 9;"
            + "reach up meadow wide 10 bank 5;reach mid cellar wide 8 bank 6;reach low bridge wide 6 bank 9;"
            + "rope r at up pulls 2 bears 7;rope s at up pulls 3 bears 12;rope t at low pulls 1 bears 10;loose s;"
            + "hand ann strong 5;hand bob strong 9;hand cyd strong 5;"
            + "boat cog wide 5 deep 7;boat raft wide 9 deep 0;boat punt wide 5 deep 6;mud up deep 7";

    public static void main(String[] args) {
        newObject();
        reachesAndRopes();
        widths();
        harmByKinds();
        now();
        byAnotherFlow();
        leastFlows();
        lacing();
        lengthIsNotLacing();
        burstOnesAreNotLaced();
        changes();
        boats();
        letThrough();
        hands();
        letOut();
        asking();
        parishes();
        rests();
        centuries();
        bursting();
        wearing();
        acts();
        undoing();
        marks();
        told();
        troubles();
        check.end("PromisesTest");
    }

    private static void newObject() {
        RiverCorset x = new RiverCorset();
        check.due("trouble()", x.trouble(), 0);
        check.due("fault()", x.fault(), 0);
        check.due("where()", x.where(), -1);
        for (int what = 0; what <= 11; what++) {
            check.due("size(" + what + ")", x.size(what), 0);
        }
        noRiver(x);
    }

    private static void noRiver(RiverCorset x) {
        int[] got = {x.reach(0, 0), x.rope(0, 0), x.below(), x.harm(), x.spills(), x.outOfLaw(), x.narrowest(),
            x.worn(), x.spilt(), x.depthBy(0, 5), x.harmBy(5), x.bursts(5), x.burstsAt(0), x.spillsAt(0),
            x.safeFlow(), x.lacing(), x.length(), x.lengthSum(), x.lacings(), x.bestChange(), x.changeHarm(),
            x.passes(0), x.stuck(0), x.letThrough(0), x.bestBoat(), x.needs(0), x.hauls(0), x.fits(), x.could(),
            x.surely(), x.ask(), x.askLeaves(), x.judge(), x.rests(), x.rest(), x.century(0, 1), x.burstBy(0, 1),
            x.yearOf(0, 0), x.firstFlood(0, 1), x.lace(0), x.ease(0), x.year(), x.mark()};
        for (int i = 0; i < got.length; i++) {
            check.refused(x, "call " + i + " without a RIVER", got[i], 1);
        }
        check.due("parish without a RIVER", x.parish(0, 0, false), -10000);
        check.due("trouble()", x.trouble(), 1);
        check.refused(x, "mend", x.mend(0), 1);
        check.refused(x, "rain", x.rain(5), 1);
        check.refused(x, "seed", x.seed(5), 1);
        check.refused(x, "back", x.back(0), 1);
        check.refused(x, "undo", x.undo(), 6);
        check.refused(x, "harmBy of no flow", x.harmBy(0), 1);
        check.refused(x, "rain of no flow", x.rain(0), 1);
        check.refused(x, "seed of no SEED", x.seed(-1), 1);
        check.refused(x, "century of no years", x.century(-1, 61), 1);
        check.due("led(0)", Check.hasLed(x, 0), false);
    }

    private static void reachesAndRopes() {
        RiverCorset x = Check.of(MILL);
        int[][] reaches = {{1, 10, 5, 8, 60, 7, 16, 0}, {2, 8, 6, 8, 52, 6, 0, 0}, {3, 6, 9, 5, 52, 10, 5, 25}};
        for (int r = 0; r < 3; r++) {
            for (int what = 0; what < 8; what++) {
                check.fine(x, "reach(" + r + ", " + what + ")", x.reach(r, what), reaches[r][what]);
            }
        }
        int[][] ropes = {{0, 2, 7, 1, 0, 0}, {0, 3, 12, 0, 0, 0}, {2, 1, 10, 1, 0, 0}};
        for (int k = 0; k < 3; k++) {
            for (int what = 0; what < 6; what++) {
                check.fine(x, "rope(" + k + ", " + what + ")", x.rope(k, what), ropes[k][what]);
            }
        }
        check.refused(x, "reach(3, 0)", x.reach(3, 0), 1);
        check.refused(x, "reach(-1, 0)", x.reach(-1, 0), 1);
        check.refused(x, "reach(0, 8)", x.reach(0, 8), 1);
        check.refused(x, "reach(0, -1)", x.reach(0, -1), 1);
        check.refused(x, "rope(3, 0)", x.rope(3, 0), 1);
        check.refused(x, "rope(-1, 0)", x.rope(-1, 0), 1);
        check.refused(x, "rope(0, 6)", x.rope(0, 6), 1);
        check.refused(x, "rope(0, -1)", x.rope(0, -1), 1);
        check.refused(x, "reach of the least number", x.reach(Integer.MIN_VALUE, 0), 1);
        check.refused(x, "rope of the greatest number", x.rope(Integer.MAX_VALUE, 3), 1);
    }

    private static void widths() {
        RiverCorset x = Check.of("river flow 20 tape 9;reach a plain wide 9 bank 99;"
                + "rope k at a pulls 5 bears 19;rope m at a pulls 6 bears 20");
        check.fine(x, "WIDTH is 1 at least", x.reach(0, 3), 1);
        check.fine(x, "DEPTH", x.reach(0, 5), 20);
        check.fine(x, "BURSTS by 20 that bears 19", x.rope(0, 5), 1);
        check.fine(x, "bears 20", x.rope(1, 5), 0);
        check.fine(x, "ease(0)", x.ease(0), 3);
        check.fine(x, "not by 6", x.rope(1, 5), 0);
        check.fine(x, "a loose one never BURSTS", x.rope(0, 5), 0);
        check.fine(x, "lace(0)", x.lace(0), 1);
    }

    private static void harmByKinds() {
        String[] kinds = {"plain", "meadow", "cellar", "bridge"};
        int[] harms = {12, 0, 24, 32};
        int[] belows = {23, 29, 23, 23};
        for (int i = 0; i < 4; i++) {
            RiverCorset x = Check.of("river flow 35 tape 9;reach a " + kinds[i] + " wide 4 bank 5");
            check.fine(x, kinds[i] + " DEPTH", x.reach(0, 5), 8);
            check.fine(x, kinds[i] + " SPILL", x.reach(0, 6), 12);
            check.fine(x, kinds[i] + " HARM", x.reach(0, 7), harms[i]);
            check.fine(x, kinds[i] + " below", x.below(), belows[i]);
            check.fine(x, kinds[i] + " no HARM by bank", x.harmBy(23), 0);
            check.fine(x, kinds[i] + " HARM above bank", x.harmBy(24), i == 3 ? 24 : harms[i] / 3);
        }
        RiverCorset odd = Check.of("river flow 30 tape 9;reach a meadow wide 5 bank 5");
        check.fine(odd, "half of 5 downwards goes on", odd.below(), 27);
    }

    private static void now() {
        RiverCorset x = Check.of(MILL);
        check.fine(x, "below()", x.below(), 47);
        check.fine(x, "harm()", x.harm(), 25);
        check.fine(x, "spills()", x.spills(), 5);
        check.fine(x, "outOfLaw()", x.outOfLaw(), 0);
        check.fine(x, "narrowest()", x.narrowest(), 2);
        check.fine(x, "worn(), the first of like ones", x.worn(), 0);
        check.fine(x, "spilt()", x.spilt(), 13);
        x.ease(0);
        check.fine(x, "outOfLaw() of 10 by 9", x.outOfLaw(), 1);
        check.fine(x, "worn() of the one", x.worn(), 2);
        x.ease(2);
        check.fine(x, "worn() of none", x.worn(), -2);
        RiverCorset like = Check.of("river flow 9 tape 2;reach a plain wide 4 bank 9;reach b plain wide 3 bank 9;"
                + "reach c plain wide 3 bank 9");
        check.fine(like, "narrowest(), the first of like ones", like.narrowest(), 1);
        check.fine(like, "outOfLaw() of all", like.outOfLaw(), 7);
        check.fine(like, "spills() of none", like.spills(), 0);
        check.fine(like, "spilt() of none", like.spilt(), 0);
    }

    private static void byAnotherFlow() {
        RiverCorset x = Check.of(MILL);
        check.fine(x, "depthBy(0, 1)", x.depthBy(0, 1), 0);
        check.fine(x, "depthBy(0, 999)", x.depthBy(0, 999), 124);
        // 64: DEPTH 8, 24 SPILL, 12 come back, 52 go on.
        check.fine(x, "depthBy(1, 64)", x.depthBy(1, 64), 6);
        check.fine(x, "harmBy(60)", x.harmBy(60), 25);
        check.fine(x, "harmBy(49)", x.harmBy(49), 0);
        check.fine(x, "bursts(60)", x.bursts(60), 0);
        check.fine(x, "bursts(64)", x.bursts(64), 1);
        check.fine(x, "flow NOW stays", x.size(7), 60);
        check.refused(x, "depthBy(0, 0)", x.depthBy(0, 0), 2);
        check.refused(x, "depthBy(0, 1000)", x.depthBy(0, 1000), 2);
        check.refused(x, "depthBy(3, 1000)", x.depthBy(3, 1000), 1);
        check.refused(x, "depthBy(-1, 5)", x.depthBy(-1, 5), 1);
        check.refused(x, "harmBy(0)", x.harmBy(0), 2);
        check.refused(x, "harmBy(1000)", x.harmBy(1000), 2);
        check.refused(x, "bursts(-5)", x.bursts(-5), 2);
        check.refused(x, "bursts(1000)", x.bursts(1000), 2);
    }

    private static void leastFlows() {
        RiverCorset x = Check.of(MILL);
        check.fine(x, "spillsAt(0)", x.spillsAt(0), 48);
        // low SPILLS by 50; by 48 to 55 8 of up SPILL and 4 come back: of 54 50 go on.
        check.fine(x, "spillsAt(2)", x.spillsAt(2), 54);
        check.fine(x, "burstsAt(0)", x.burstsAt(0), 64);
        check.refused(x, "burstsAt(1)", x.burstsAt(1), 5);
        check.refused(x, "burstsAt(3)", x.burstsAt(3), 1);
        check.refused(x, "burstsAt(-1)", x.burstsAt(-1), 1);
        check.refused(x, "spillsAt(3)", x.spillsAt(3), 1);
        check.refused(x, "spillsAt(-1)", x.spillsAt(-1), 1);
        check.fine(x, "safeFlow()", x.safeFlow(), 47);
        x.rain(900);
        check.fine(x, "safeFlow() whatever the flow NOW", x.safeFlow(), 47);
        // What goes on from a is 47 at most, and by 48 it is 40 again.
        RiverCorset saw = Check.of("river flow 9 tape 9;reach a plain wide 8 bank 5;reach b plain wide 4 bank 10;"
                + "reach c plain wide 4 bank 11;rope k at b pulls 1 bears 15;rope m at c pulls 1 bears 14");
        check.fine(saw, "spillsAt(0)", saw.spillsAt(0), 48);
        check.fine(saw, "spillsAt(1)", saw.spillsAt(1), 33);
        check.fine(saw, "burstsAt(0) that 47 can't", saw.burstsAt(0), -2);
        check.fine(saw, "burstsAt(1) that b keeps off", saw.burstsAt(1), -2);
        check.fine(saw, "spillsAt(2) that b keeps off", saw.spillsAt(2), -2);
        RiverCorset wide = Check.of("river flow 9 tape 40;reach a plain wide 40 bank 99");
        check.fine(wide, "safeFlow() 999", wide.safeFlow(), 999);
        check.fine(wide, "spillsAt() none", wide.spillsAt(0), -2);
        RiverCorset low = Check.of("river flow 9 tape 40;reach a plain wide 3 bank 1;rope k at a pulls 2 bears 1");
        check.fine(low, "safeFlow() 1", low.safeFlow(), 1);
        check.fine(low, "burstsAt() 2", low.burstsAt(0), 2);
    }

    private static void lacing() {
        // a must be 9 by the tape: by q 9 wide and 4 deep, by u 8 and 5, by both 5 and 8.
        RiverCorset x = Check.of("river flow 40 tape 9;reach a plain wide 12 bank 9;reach b plain wide 5 bank 9;"
                + "rope p at b pulls 1 bears 20;rope q at a pulls 3 bears 9;rope u at a pulls 4 bears 9");
        // p makes b 4 wide and 10 deep, which SPILLS.
        check.fine(x, "lacing()", x.lacing(), 2);
        check.fine(x, "lacings()", x.lacings(), 3);
        check.fine(x, "length()", x.length(), 6);
        check.fine(x, "lengthSum()", x.lengthSum(), 5);
        x.rain(50);
        check.fine(x, "lacing() can't be", x.lacing(), -2);
        check.fine(x, "length() can't be", x.length(), -2);
        check.fine(x, "lengthSum() can't be", x.lengthSum(), -2);
        check.fine(x, "lacings() none", x.lacings(), 0);
        RiverCorset free = Check.of("river flow 9 tape 40;reach a plain wide 9 bank 9;rope k at a pulls 1 bears 9");
        check.fine(free, "lacing() of none", free.lacing(), 0);
        check.fine(free, "length() of none", free.length(), 0);
        check.fine(free, "lengthSum() of none", free.lengthSum(), 0);
        check.fine(free, "lacings()", free.lacings(), 2);
    }

    private static void lengthIsNotLacing() {
        // Both reaches are out of law; one rope each, or two at b, which are less wide together.
        RiverCorset x = Check.of("river flow 9 tape 9;reach a plain wide 10 bank 9;reach b plain wide 12 bank 9;"
                + "rope p at a pulls 1 bears 9;rope q at b pulls 3 bears 9;rope u at b pulls 4 bears 9");
        check.fine(x, "lacing()", x.lacing(), 3);
        check.fine(x, "length()", x.length(), 7);
        check.fine(x, "lengthSum()", x.lengthSum(), 14);
        check.fine(x, "lacings()", x.lacings(), 3);
        // Like sums: a alone by p or by q is 7 wide; least bits.
        RiverCorset like = Check.of("river flow 70 tape 9;reach a plain wide 10 bank 10;"
                + "rope p at a pulls 3 bears 19;rope q at a pulls 3 bears 19;rope u at a pulls 9 bears 1");
        check.fine(like, "lacing() of like ones", like.lacing(), 1);
        check.fine(like, "length() of like ones", like.length(), 1);
        check.fine(like, "lacings() of like ones", like.lacings(), 2);
    }

    private static void burstOnesAreNotLaced() {
        RiverCorset x = Check.of("river flow 60 tape 9;reach a plain wide 10 bank 10;"
                + "rope p at a pulls 1 bears 1;rope q at a pulls 1 bears 9");
        x.seed(0);
        // 60 and 74 mod 61 less 30: 43 by WIDTH 8 is 5: p bursts, q is worn by 1.
        check.fine(x, "year()", x.year(), 0);
        check.fine(x, "p is burst", x.rope(0, 3), 2);
        check.fine(x, "lacing() with q", x.lacing(), 2);
        check.fine(x, "lacings()", x.lacings(), 1);
        check.fine(x, "q's WEAR", x.rope(1, 4), 1);
        x.rain(80);
        check.fine(x, "q bears 8 yet, DEPTH is 8", x.lacing(), 2);
        x.rain(81);
        check.fine(x, "q BURSTS by 9", x.lacing(), -2);
    }

    private static void changes() {
        RiverCorset x = Check.of(MILL);
        // r loose: up 10 wide, 6 deep, 10 SPILL, 55 go on; mid 6; low 11 deep: HARM 30.
        // s laced: up 5 wide, 12 deep, 35 SPILL, 42 go on; mid 5; low 8: HARM 0.
        // t loose: low 6 wide, 8 deep: HARM 0, but s is the first such.
        check.fine(x, "bestChange()", x.bestChange(), 1);
        check.fine(x, "changeHarm()", x.changeHarm(), 0);
        check.fine(x, "nothing is changed", x.harm(), 25);
        x.lace(1);
        check.fine(x, "bestChange() none is better", x.bestChange(), -2);
        check.fine(x, "changeHarm() likewise", x.changeHarm(), -2);
        RiverCorset none = Check.of("river flow 90 tape 9;reach a plain wide 3 bank 9");
        check.fine(none, "bestChange() without ropes", none.bestChange(), -2);
        RiverCorset burst = Check.of("river flow 60 tape 40;reach a meadow wide 10 bank 2;reach b plain wide 5 bank 4;"
                + "rope p at a pulls 5 bears 1");
        burst.year();
        // p, LACED again, would let less go on to b.
        check.fine(burst, "it is burst", burst.rope(0, 3), 2);
        check.fine(burst, "bestChange() not a burst one", burst.bestChange(), -2);
        burst.mend(0);
        check.fine(burst, "bestChange() a mended one", burst.bestChange(), 0);
    }

    private static void boats() {
        RiverCorset x = Check.of(MILL);
        // WIDTHS 8, 8, 5; DEPTHS 7, 6, 10.
        check.fine(x, "passes(0)", x.passes(0), 5);
        check.fine(x, "passes(1)", x.passes(1), 0);
        check.fine(x, "passes(2)", x.passes(2), 7);
        check.fine(x, "stuck(0)", x.stuck(0), 1);
        check.fine(x, "stuck(1)", x.stuck(1), 0);
        check.fine(x, "stuck(2)", x.stuck(2), -2);
        check.fine(x, "bestBoat()", x.bestBoat(), 2);
        check.refused(x, "passes(3)", x.passes(3), 1);
        check.refused(x, "passes(-1)", x.passes(-1), 1);
        check.refused(x, "stuck(3)", x.stuck(3), 1);
        check.refused(x, "stuck(-1)", x.stuck(-1), 1);
        RiverCorset none = Check.of("river flow 9 tape 9;reach a plain wide 3 bank 9");
        check.fine(none, "bestBoat() without boats", none.bestBoat(), -2);
        RiverCorset stuck = Check.of("river flow 9 tape 9;reach a plain wide 3 bank 9;boat p wide 4 deep 0;boat q wide 3 deep 4");
        check.fine(stuck, "bestBoat() of none that PASSES", stuck.bestBoat(), 0);
    }

    private static void letThrough() {
        RiverCorset x = Check.of(MILL);
        check.fine(x, "letThrough(0)", x.letThrough(0), -2);
        check.fine(x, "letThrough(2) as it is", x.letThrough(2), 0);
        check.refused(x, "letThrough(3)", x.letThrough(3), 1);
        check.refused(x, "letThrough(-1)", x.letThrough(-1), 1);
        // It is 6 wide, 8 without u or without p and q, 7 without p or q.
        RiverCorset y = Check.of("river flow 50 tape 9;reach a plain wide 10 bank 9;rope p at a pulls 1 bears 9;"
                + "rope q at a pulls 1 bears 9;rope u at a pulls 2 bears 9;boat b wide 8 deep 6;boat c wide 7 deep 1;"
                + "boat d wide 10 deep 5;boat e wide 10 deep 6");
        check.fine(y, "letThrough(0) the fewest", y.letThrough(0), 4);
        check.fine(y, "letThrough(1) the least bits", y.letThrough(1), 1);
        check.fine(y, "letThrough(2) all", y.letThrough(2), 7);
        check.fine(y, "letThrough(3) can't be", y.letThrough(3), -2);
        y.ease(0);
        check.fine(y, "letThrough(1) as it is", y.letThrough(1), 0);
        check.fine(y, "letThrough(0) of those LACED", y.letThrough(0), 2);
    }

    private static void hands() {
        RiverCorset x = Check.of(MILL);
        check.fine(x, "needs(0)", x.needs(0), 14);
        check.fine(x, "needs(1) of a loose one", x.needs(1), 21);
        check.fine(x, "needs(2)", x.needs(2), 10);
        check.fine(x, "hauls(0) ann and bob", x.hauls(0), 3);
        check.fine(x, "hauls(1) can't be", x.hauls(1), -2);
        check.fine(x, "hauls(2) ann and bob are the least bits", x.hauls(2), 3);
        check.refused(x, "needs(3)", x.needs(3), 1);
        check.refused(x, "needs(-1)", x.needs(-1), 1);
        check.refused(x, "hauls(3)", x.hauls(3), 1);
        check.refused(x, "hauls(-1)", x.hauls(-1), 1);
        x.rain(39);
        check.fine(x, "needs(2) 7", x.needs(2), 7);
        check.fine(x, "hauls(2) bob alone", x.hauls(2), 2);
        x.rain(1);
        check.fine(x, "needs(0) nothing", x.needs(0), 0);
        check.fine(x, "hauls(0) nobody", x.hauls(0), 0);
        RiverCorset all = Check.of("river flow 30 tape 9;reach a plain wide 6 bank 9;rope k at a pulls 3 bears 9;"
                + "hand a" + "a strong 14;hand bb strong 16");
        check.fine(all, "needs all", all.needs(0), 30);
        check.fine(all, "hauls by all", all.hauls(0), 3);
    }

    private static void letOut() {
        RiverCorset x = Check.of(MILL);
        // mud of up is 7, as with r LACED; r loose it is 6 deep. t may have been loose or not.
        check.fine(x, "fits()", x.fits(), 2);
        check.fine(x, "could()", x.could(), 4);
        check.fine(x, "surely()", x.surely(), 0);
        check.fine(x, "judge()", x.judge(), -2);
        x.rain(70);
        // 70 by 8 is 8, by 10 is 7: r was loose.
        check.fine(x, "fits() with r", x.fits(), 2);
        check.fine(x, "could() with r", x.could(), 5);
        check.fine(x, "surely() r", x.surely(), 1);
        check.fine(x, "judge() up", x.judge(), 0);
        x.rain(90);
        check.fine(x, "fits() none", x.fits(), 0);
        check.fine(x, "could() none", x.could(), 0);
        check.fine(x, "surely() none", x.surely(), 0);
        check.fine(x, "ask() none", x.ask(), -2);
        check.fine(x, "askLeaves() none", x.askLeaves(), -2);
        RiverCorset late = Check.of("river flow 9 tape 9;reach a plain wide 3 bank 9;reach b plain wide 3 bank 9;"
                + "reach c plain wide 3 bank 9;mud c deep 0;mud b deep 2;mud a deep 3");
        check.fine(late, "judge() by numbers of reaches", late.judge(), 1);
        check.fine(late, "ask() all have mud", late.ask(), -2);
        check.fine(late, "askLeaves() all have mud", late.askLeaves(), -2);
    }

    private static void asking() {
        RiverCorset x = Check.of(MILL);
        // up is 7 deep; mid is 6 in both; low 10 or 8.
        check.fine(x, "ask()", x.ask(), 2);
        check.fine(x, "askLeaves()", x.askLeaves(), 1);
        x.ease(2);
        check.fine(x, "ask() the first of like ones", x.ask(), 1);
        check.fine(x, "askLeaves() the one", x.askLeaves(), 1);
        // No mud: a is 10 or 12 deep, b 6 or 7: 8 of 16 are left at most.
        RiverCorset two = Check.of("river flow 60 tape 9;reach a plain wide 6 bank 99;reach b plain wide 10 bank 99;"
                + "rope p at a pulls 1 bears 99;rope q at b pulls 2 bears 99;reach c plain wide 9 bank 99;"
                + "rope u at c pulls 2 bears 99;rope v at c pulls 3 bears 99");
        check.fine(two, "fits() of all", two.fits(), 16);
        check.fine(two, "could() of all", two.could(), 15);
        check.fine(two, "surely() of all", two.surely(), 0);
        // c is 9, 7, 6 or 4 wide: 6, 8, 10 or 15 deep.
        check.fine(two, "ask() c", two.ask(), 2);
        check.fine(two, "askLeaves() c", two.askLeaves(), 4);
    }

    private static void parishes() {
        RiverCorset x = Check.of(MILL);
        // up is a meadow, without HARM; low is 5 wide less other.
        check.fine(x, "parish(0, 0, one)", x.parish(0, 0, false), 0);
        check.fine(x, "parish(0, 0, other)", x.parish(0, 0, true), -25);
        // one 5: up 3 wide, 20 deep, 45 SPILL, 37 go on; low 7 deep.
        check.fine(x, "parish(5, 0, one)", x.parish(5, 0, false), 15);
        check.fine(x, "parish(5, 0, other)", x.parish(5, 0, true), 0);
        // other 5: low 1 wide, 37 deep, 28 SPILL.
        check.fine(x, "parish(5, 5, other)", x.parish(5, 5, true), -33);
        int[][] bad = {{-1, 0}, {6, 0}, {0, -1}, {0, 6}};
        for (int[] pulls : bad) {
            check.due("parish of " + pulls[0] + ", " + pulls[1], x.parish(pulls[0], pulls[1], false), -10000);
            check.due("trouble()", x.trouble(), 2);
        }
        RiverCorset alone = Check.of("river flow 9 tape 9;reach a plain wide 3 bank 9");
        check.due("parish alone", alone.parish(9, 0, false), -10000);
        check.due("trouble()", alone.trouble(), 1);
        check.refused(alone, "rests() alone", alone.rests(), 1);
        check.refused(alone, "rest() alone", alone.rest(), 1);
    }

    private static void rests() {
        // Nothing ever SPILLS: both pull 5.
        RiverCorset dry = Check.of("river flow 9 tape 9;reach a plain wide 9 bank 99;reach b plain wide 9 bank 99");
        check.fine(dry, "rests() dry", dry.rests(), 1);
        check.fine(dry, "rest() dry", dry.rest(), 55);
        // The one does best with 5 (3 wide, 37 go on). By 37 low is 7, 9, 12, 18, 37, 37 deep by 0 .. 5:
        // HARM 0, 0, 29, 38, 48, 48; so the other has 0, 3, -23, -29, -36, -33.
        RiverCorset x = Check.of(MILL);
        check.fine(x, "rests()", x.rests(), 1);
        check.fine(x, "rest()", x.rest(), 51);
        // A meadow has no HARM however much it SPILLS.
        RiverCorset flood = Check.of("river flow 900 tape 9;reach a meadow wide 3 bank 1;reach b meadow wide 3 bank 1");
        check.fine(flood, "rest() of two meadows", flood.rest(), 55);
        // a 5 wide bank 5 by 30: DEPTH 6 SPILL 5 at pull 0: -5; 4 wide: 7, 8: -5; 3: 10, 15: -9; 2: 15, 20: -11;
        // 1: 30, 25: -13 and at pull 5 -10. So 0 and 1 are like ones. b never SPILLS: 5.
        RiverCorset like = Check.of("river flow 30 tape 9;reach a plain wide 5 bank 5;reach b plain wide 9 bank 99");
        check.fine(like, "parish(0)", like.parish(0, 5, false), -5);
        check.fine(like, "parish(1)", like.parish(1, 5, false), -5);
        check.fine(like, "parish(5)", like.parish(5, 5, false), -10);
        check.fine(like, "rests() of like ones", like.rests(), 2);
        check.fine(like, "rest() the first", like.rest(), 5);
    }

    /** 50 told; SEED 0: 74 (mod 61 13: 33), 5624 (12: 32), 28652 (43: 63), 51790 (1: 21). */
    private static void centuries() {
        RiverCorset x = Check.of("river flow 50 tape 9;reach a plain wide 5 bank 10;reach b cellar wide 4 bank 8");
        // 33: b 8 deep; 32: 8; 63: a 12 deep, 10 SPILL, b 13 deep, 20 SPILL, HARM 10 and 40; 21: b 5.
        check.fine(x, "century(0, 0)", x.century(0, 0), 0);
        check.fine(x, "century(0, 2)", x.century(0, 2), 0);
        check.fine(x, "century(0, 3)", x.century(0, 3), 50);
        check.fine(x, "century(0, 4)", x.century(0, 4), 50);
        check.fine(x, "firstFlood(0, 2)", x.firstFlood(0, 2), 0);
        check.fine(x, "firstFlood(0, 3)", x.firstFlood(0, 3), 3);
        check.fine(x, "firstFlood(0, 60)", x.firstFlood(0, 60), 3);
        check.fine(x, "firstFlood(5624, 1)", x.firstFlood(5624, 1), 1);
        check.fine(x, "firstFlood(28652, 1)", x.firstFlood(28652, 1), 0);
        check.fine(x, "burstBy(0, 60) without ropes", x.burstBy(0, 60), 0);
        check.due("SEED stays", x.size(8), 0);
        check.due("flow stays", x.size(7), 50);
        check.fine(x, "century(65536, 60)", x.century(65536, 60) >= 0 ? 1 : 0, 1);
        int[][] bad = {{-1, 5}, {65537, 5}, {0, -1}, {0, 61}};
        for (int[] pair : bad) {
            check.refused(x, "century of " + pair[0] + ", " + pair[1], x.century(pair[0], pair[1]), 2);
            check.refused(x, "burstBy of " + pair[0] + ", " + pair[1], x.burstBy(pair[0], pair[1]), 2);
            check.refused(x, "firstFlood of " + pair[0] + ", " + pair[1], x.firstFlood(pair[0], pair[1]), 2);
        }
        // A flow of less than 1 is 1: told 5, and 51790 mod 61 is 1, less 30.
        RiverCorset low = Check.of("river flow 5 tape 9;reach a plain wide 5 bank 10");
        low.seed(28652);
        check.fine(low, "year()", low.year(), 0);
        check.due("flow is 1 at least", low.size(7), 1);
        check.due("SEED", low.size(8), 51790);
    }

    /** Both burst by the DEPTH with both LACED; HARM is done with both loose. */
    private static void bursting() {
        RiverCorset x = Check.of("river flow 50 tape 9;reach a plain wide 9 bank 5;"
                + "rope p at a pulls 3 bears 7;rope q at a pulls 2 bears 7;rope u at a pulls 1 bears 99");
        // 33 by 3 is 11: p and q burst; then by 8 it is 4 deep: nothing SPILLS.
        check.fine(x, "yearOf(0, 0)", x.yearOf(0, 0), 1);
        check.fine(x, "yearOf(1, 0)", x.yearOf(1, 0), 1);
        check.fine(x, "yearOf(2, 0)", x.yearOf(2, 0), 0);
        check.fine(x, "burstBy(0, 1)", x.burstBy(0, 1), 3);
        check.fine(x, "burstBy(0, 0)", x.burstBy(0, 0), 0);
        check.fine(x, "century(0, 1)", x.century(0, 1), 0);
        check.fine(x, "firstFlood(0, 1) behind the bursting", x.firstFlood(0, 1), 0);
        // 63 by 8 is 7: SPILL 16.
        check.fine(x, "century(0, 4)", x.century(0, 4), 16);
        check.fine(x, "firstFlood(0, 4)", x.firstFlood(0, 4), 3);
        check.fine(x, "year()", x.year(), 0);
        check.fine(x, "burstBy(0, 0) of those burst NOW", x.burstBy(0, 0), 3);
        check.fine(x, "WEAR of one that burst", x.rope(0, 4), 0);
        check.fine(x, "WEAR of one still LACED", x.rope(2, 4), 1);
        check.refused(x, "yearOf(0, 0) burst", x.yearOf(0, 0), 5);
        check.refused(x, "yearOf(0, -1) burst", x.yearOf(0, -1), 2);
        check.refused(x, "yearOf(2, 65537)", x.yearOf(2, 65537), 2);
        check.refused(x, "yearOf(3, -1)", x.yearOf(3, -1), 1);
        check.refused(x, "yearOf(-1, 0)", x.yearOf(-1, 0), 1);
        x.ease(2);
        check.refused(x, "yearOf(2, 0) loose", x.yearOf(2, 0), 5);
    }

    /** What a rope bears is less by its WEAR, YEAR by YEAR. */
    private static void wearing() {
        RiverCorset x = Check.of("river flow 40 tape 40;reach a plain wide 40 bank 99;rope p at a pulls 1 bears 4");
        // SEED 0: 40 and 13, 12, 43, 1, less 30: 23, 22, 53, 11: by WIDTH 39 DEPTH 0, 0, 1, 0.
        check.fine(x, "burstsAt(0)", x.burstsAt(0), 195);
        for (int i = 0; i < 3; i++) {
            x.year();
        }
        check.fine(x, "WEAR", x.rope(0, 4), 3);
        check.fine(x, "burstsAt(0) by WEAR", x.burstsAt(0), 78);
        check.fine(x, "bursts(78)", x.bursts(78), 1);
        check.fine(x, "bursts(77)", x.bursts(77), 0);
        check.fine(x, "worn()", x.worn(), 0);
        check.fine(x, "year()", x.year(), 0);
        check.due("flow", x.size(7), 11);
        check.fine(x, "rope(0, 3)", x.rope(0, 3), 1);
        check.fine(x, "DEPTH 0 isn't above 4 less WEAR 4", x.rope(0, 5), 0);
        check.fine(x, "burstsAt(0) by WEAR 4", x.burstsAt(0), 39);
        x.ease(0);
        x.year();
        check.fine(x, "a loose one isn't worn", x.rope(0, 4), 4);
        x.lace(0);
        check.fine(x, "LACED again it is as worn", x.rope(0, 4), 4);
    }

    private static void acts() {
        RiverCorset x = Check.of(MILL);
        check.fine(x, "lace(1)", x.lace(1), 5);
        check.refused(x, "lace(1) again", x.lace(1), 5);
        check.fine(x, "ease(1)", x.ease(1), 8);
        check.refused(x, "ease(1) again", x.ease(1), 5);
        check.refused(x, "lace(3)", x.lace(3), 1);
        check.refused(x, "lace(-1)", x.lace(-1), 1);
        check.refused(x, "ease(3)", x.ease(3), 1);
        check.refused(x, "ease(-1)", x.ease(-1), 1);
        check.refused(x, "mend(0) LACED", x.mend(0), 6);
        check.refused(x, "mend(1) loose", x.mend(1), 6);
        check.refused(x, "mend(3)", x.mend(3), 1);
        check.refused(x, "mend(-1)", x.mend(-1), 1);
        check.fine(x, "rain(1)", x.rain(1));
        check.fine(x, "rain(999)", x.rain(999));
        check.due("flow NOW", x.size(7), 999);
        check.due("flow as told", x.size(0), 60);
        check.refused(x, "rain(0)", x.rain(0), 2);
        check.refused(x, "rain(1000)", x.rain(1000), 2);
        check.fine(x, "seed(65536)", x.seed(65536));
        check.fine(x, "seed(0)", x.seed(0));
        check.refused(x, "seed(-1)", x.seed(-1), 2);
        check.refused(x, "seed(65537)", x.seed(65537), 2);
        check.due("ACTS are those not refused, and no SEED", x.size(9), 4);
        mending();
    }

    private static void mending() {
        RiverCorset x = Check.of("river flow 50 tape 40;reach a plain wide 40 bank 99;rope p at a pulls 1 bears 1");
        // SEED 0: 33, 32, 63: DEPTH 0, 0, 1; with WEAR 2 it bears less than nothing.
        check.fine(x, "yearOf(0, 0)", x.yearOf(0, 0), 3);
        x.year();
        x.year();
        check.fine(x, "still LACED", x.rope(0, 3), 1);
        check.fine(x, "burstsAt(0) below nothing", x.burstsAt(0), 1);
        x.year();
        check.fine(x, "burst", x.rope(0, 3), 2);
        check.fine(x, "its WEAR stays", x.rope(0, 4), 2);
        check.refused(x, "lace a burst one", x.lace(0), 5);
        check.refused(x, "ease a burst one", x.ease(0), 5);
        check.refused(x, "burstsAt of a burst one", x.burstsAt(0), 5);
        check.fine(x, "mend(0)", x.mend(0));
        check.fine(x, "loose", x.rope(0, 3), 0);
        check.fine(x, "no WEAR", x.rope(0, 4), 0);
        check.fine(x, "lace(0)", x.lace(0), 39);
        x.undo();
        x.undo();
        check.fine(x, "burst again", x.rope(0, 3), 2);
        check.fine(x, "worn again", x.rope(0, 4), 2);
    }

    private static void undoing() {
        RiverCorset x = Check.of(MILL);
        check.refused(x, "undo() of nothing", x.undo(), 6);
        x.seed(5);
        x.rain(70);
        x.seed(9);
        check.fine(x, "undo()", x.undo());
        check.due("SEED as ahead of the ACT", x.size(8), 5);
        check.due("flow as ahead of the ACT", x.size(7), 60);
        for (int flow = 101; flow <= 120; flow++) {
            x.rain(flow);
        }
        check.due("16 are kept", x.size(9), 16);
        for (int i = 0; i < 16; i++) {
            check.due("flow", x.size(7), 120 - i);
            check.fine(x, "undo()", x.undo());
        }
        check.due("the oldest that is kept", x.size(7), 104);
        check.refused(x, "undo() of no more", x.undo(), 6);
        check.due("flow stays", x.size(7), 104);
    }

    private static void marks() {
        RiverCorset x = Check.of(MILL);
        check.fine(x, "mark() 0", x.mark(), 0);
        x.ease(0);
        x.seed(3);
        check.fine(x, "mark() 1", x.mark(), 1);
        x.year();
        check.fine(x, "mark() 2", x.mark(), 2);
        check.refused(x, "mark() more", x.mark(), 3);
        check.due("MARKS", x.size(10), 3);
        check.due("no ACT", x.size(9), 2);
        check.fine(x, "back(1)", x.back(1));
        check.due("SEED", x.size(8), 3);
        check.due("flow", x.size(7), 60);
        check.fine(x, "rope(0, 3)", x.rope(0, 3), 0);
        check.fine(x, "rope(2, 4)", x.rope(2, 4), 0);
        check.due("nothing to undo", x.size(9), 0);
        check.refused(x, "undo()", x.undo(), 6);
        check.due("MARKS stay", x.size(10), 3);
        check.fine(x, "back(0)", x.back(0));
        check.due("SEED", x.size(8), 0);
        check.fine(x, "rope(0, 3)", x.rope(0, 3), 1);
        check.fine(x, "back(2)", x.back(2));
        check.due("SEED of the YEAR", x.size(8), 299);
        check.due("flow of the YEAR", x.size(7), 60 + 299 % 61 - 30);
        x.rain(5);
        check.refused(x, "back(3)", x.back(3), 1);
        check.refused(x, "back(-1)", x.back(-1), 1);
        check.due("refused, it leaves what can be undone", x.size(9), 1);
        check.fine(x, "undo()", x.undo());
        check.due("MARKS outlive undoing", x.size(10), 3);
    }

    private static void told() {
        RiverCorset x = Check.of(MILL);
        int[] sizes = {60, 9, 3, 3, 3, 3, 1, 60, 0, 0, 0, 0};
        for (int what = 0; what < sizes.length; what++) {
            check.due("size(" + what + ")", x.size(what), sizes[what]);
        }
        check.due("size(12)", x.size(12), -1);
        check.due("size(-1)", x.size(-1), -1);
        check.due("led(0)", x.led(0), 0);
        check.due("led(1)", x.led(1), 2);
        check.due("led(2)", Check.hasLed(x, 2), false);
        check.due("led(-1)", Check.hasLed(x, -1), false);
        check.due("led of the greatest", Check.hasLed(x, Integer.MAX_VALUE), false);
        x.lace(1);
        check.due("led(1) by numbers", x.led(1), 1);
        check.due("led(2)", x.led(2), 2);
    }

    private static void troubles() {
        RiverCorset x = Check.of(MILL);
        x.lace(9);
        check.due("trouble()", x.trouble(), 1);
        x.size(99);
        x.feed(0, 0, 0, 0, 0);
        x.fault();
        x.where();
        Check.hasLed(x, 99);
        check.due("trouble() stays behind calls without numbers", x.trouble(), 1);
        x.harm();
        check.due("trouble() of one not refused", x.trouble(), 0);
    }
}
