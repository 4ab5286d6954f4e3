import java.util.function.ToIntFunction;

/** Terms III and promises 21 to 41: what is chosen, when there is none, one, like ones, or all of them. */
public final class ChoiceBoundsTest {
    private static final Check check = new Check();
    private static final String ALONE = "river flow 9 tape 9;reach a plain wide 9 bank 9";

    public static void main(String[] args) {
        askedFirst();
        lacingWithoutRopes();
        lacingOfAll();
        lacingOfTheFewest();
        lacingAtItsBounds();
        lacingWithoutBurstOnes();
        lengthOfLikeOnes();
        lengthOfNone();
        changeThatIsBetter();
        changeOfLikeOnes();
        changeNotOfBurstOnes();
        passesAtItsBounds();
        stuckAtTheFirst();
        letThroughOfTheFewest();
        letThroughOfAll();
        bestBoat();
        needsOfHauling();
        haulsOfTheFewest();
        haulsAtItsBounds();
        letOutOfAll();
        letOutOfNone();
        letOutOthersAsNow();
        askOfLikeOnes();
        askAtTheFirst();
        askOfNone();
        judgeTheFirst();
        parishPulls();
        parishWidths();
        restsOfLikeOnes();
        restIsTheFirst();
        check.end("ChoiceBoundsTest");
    }

    private static void first(String call, String text, int want, ToIntFunction<RiverCorset> last) {
        RiverCorset x = Check.of(text);
        check.fine(x, call + " asked first", last.applyAsInt(x), want);
        x.rain(999);
        RiverCorset other = Check.of(text);
        other.rain(999);
        check.fine(x, call + " by another flow", last.applyAsInt(x), last.applyAsInt(other));
        x.undo();
        check.fine(x, call + " as NOW again", last.applyAsInt(x), want);
    }

    /** Both must be LACED by the tape; by the mud k was loose; by b it is told whether l was. */
    private static void askedFirst() {
        check.says("Terms III", "By what is NOW, whatever was asked ahead");
        String text = "river flow 40 tape 8;reach a plain wide 10 bank 50;reach b plain wide 10 bank 50;rope k at a pulls 2 bears 99;"
                + "rope l at b pulls 2 bears 99;boat p wide 9 deep 3;hand h strong 9;hand i strong 1;mud a deep 4";
        first("lacing()", text, 3, x -> x.lacing());
        first("length()", text, 3, x -> x.length());
        first("lengthSum()", text, 16, x -> x.lengthSum());
        first("lacings()", text, 1, x -> x.lacings());
        first("fits()", text, 2, x -> x.fits());
        first("could()", text, 3, x -> x.could());
        first("surely()", text, 1, x -> x.surely());
        first("ask()", text, 1, x -> x.ask());
        first("askLeaves()", text, 1, x -> x.askLeaves());
        first("judge()", text, 0, x -> x.judge());
        first("passes()", text, 0, x -> x.passes(0));
        first("stuck()", text, 0, x -> x.stuck(0));
        first("letThrough()", text, 3, x -> x.letThrough(0));
        first("bestBoat()", text, 0, x -> x.bestBoat());
        first("needs()", text, 10, x -> x.needs(1));
        first("hauls()", text, 3, x -> x.hauls(1));
        first("rests()", text, 1, x -> x.rests());
        first("rest()", text, 55, x -> x.rest());
        first("parish()", text, 9, x -> x.parish(3, 0, false));
        String two = "river flow 100 tape 40;reach a plain wide 40 bank 50;reach b plain wide 10 bank 9;"
                + "rope j at a pulls 1 bears 99;rope k at b pulls 1 bears 99";
        first("bestChange()", two, 1, x -> x.bestChange());
        first("changeHarm()", two, 10, x -> x.changeHarm());
    }

    private static void lacing(String what, RiverCorset x, int lacing, int length, int sum, int count) {
        check.fine(x, "lacing() " + what, x.lacing(), lacing);
        check.fine(x, "length() " + what, x.length(), length);
        check.fine(x, "lengthSum() " + what, x.lengthSum(), sum);
        check.fine(x, "lacings() " + what, x.lacings(), count);
    }

    // ---- lacing

    private static void lacingWithoutRopes() {
        check.says("Promises 21 to 24", "LACING, as bits; -2 it can't be: a RIVER without ropes");
        RiverCorset x = Check.of(ALONE);
        lacing("of no ropes", x, 0, 0, 0, 1);
        x.rain(90);
        lacing("of no ropes, that SPILLS", x, -2, -2, -2, 0);
        lacing("out of law", Check.of("river flow 9 tape 8;reach a plain wide 9 bank 9"), -2, -2, -2, 0);
    }

    /** 40 less 7 is 33: by a tape of 33 all seven must be LACED. */
    private static void lacingOfAll() {
        check.says("Promises 21 to 24", "as bits: of all seven ropes");
        String text = ";reach a plain wide 40 bank 99" + Check.many(";rope # at a pulls 1 bears 99", 7);
        lacing("by 32", Check.of("river flow 9 tape 32" + text), -2, -2, -2, 0);
        lacing("by 33", Check.of("river flow 9 tape 33" + text), 127, 127, 33, 1);
        lacing("by 34", Check.of("river flow 9 tape 34" + text), 63, 127, 33, 8);
        lacing("by 39", Check.of("river flow 9 tape 39" + text), 1, 127, 33, 127);
        lacing("by 40", Check.of("river flow 9 tape 40" + text), 0, 0, 0, 128);
    }

    private static void lacingOfTheFewest() {
        check.says("Terms III", "LACING: the fewest ropes; of like ones the least bits");
        // 12 must be 10 by the tape: m alone, or k and l.
        String text = "river flow 9 tape 10;reach a plain wide 12 bank 9;rope k at a pulls 1 bears 9;"
                + "rope l at a pulls 1 bears 9;rope m at a pulls 2 bears 9;rope n at a pulls 2 bears 9";
        RiverCorset x = Check.of(text);
        check.fine(x, "m, rather than k and l, and ahead of n", x.lacing(), 4);
        // All but 12, 11 and 11 wide: 16 less 3.
        check.fine(x, "lacings()", x.lacings(), 13);
        check.says("Terms III", "sets of ropes LACED (all others loose)");
        for (int k = 0; k < 4; k++) {
            x.ease(k);
        }
        check.fine(x, "whichever are LACED NOW", x.lacing(), 4);
        check.fine(x, "lacings() likewise", x.lacings(), 13);
        check.due("nothing is LACED by asking", Check.hasLed(x, 0), false);
    }

    private static void lacingAtItsBounds() {
        check.says("Terms III", "so that nothing is OUT OF LAW, nothing SPILLS, none BURSTS");
        // k makes it 10 wide, by the tape; 99 by 10 is 9, which neither SPILLS nor BURSTS.
        String text = "river flow 99 tape #;reach a plain wide 11 bank %;rope k at a pulls 1 bears !";
        lacing("at all bounds", Check.of(text.replace("#", "10").replace("%", "9").replace("!", "9")), 1, 1, 10, 1);
        lacing("out of law by 1", Check.of(text.replace("#", "9").replace("%", "9").replace("!", "9")), -2, -2, -2, 0);
        lacing("SPILLS by 1", Check.of(text.replace("#", "10").replace("%", "8").replace("!", "9")), -2, -2, -2, 0);
        lacing("BURSTS by 1", Check.of(text.replace("#", "10").replace("%", "9").replace("!", "8")), -2, -2, -2, 0);
        // One that is loose doesn't BURST: 99 by 11 is 9.
        lacing("a loose one", Check.of(text.replace("#", "11").replace("%", "9").replace("!", "8")), 0, 0, 0, 1);
        RiverCorset worn = Check.of(text.replace("#", "10").replace("%", "9").replace("!", "9"));
        worn.seed(65536);
        worn.year();
        check.due("91", worn.size(7), 91);
        check.fine(worn, "by WEAR 1 it bears 8; 91 by 10 is 9", worn.lacing(), -2);
        worn.rain(89);
        check.fine(worn, "89 by 10 is 8", worn.lacing(), 1);
        // 10 by 1 wide SPILLS 1.
        RiverCorset one = Check.of("river flow 10 tape 2;reach a plain wide 3 bank 9;rope k at a pulls 2 bears 10");
        check.fine(one, "a SPILL of 1", one.lacing(), -2);
        one.rain(9);
        check.fine(one, "no SPILL", one.lacing(), 1);
        // A meadow SPILLS, too, though there is no HARM.
        lacing("a meadow", Check.of("river flow 99 tape 11;reach a meadow wide 11 bank 8"), -2, -2, -2, 0);
        // The second reach alone.
        lacing("of the last reach", Check.of("river flow 99 tape 20;reach a plain wide 20 bank 9;reach b plain wide 12 bank 9;"
                + "rope k at b pulls 1 bears 9;rope l at b pulls 2 bears 99"), 0, 0, 0, 3);
        lacing("by the tape of the last reach", Check.of("river flow 99 tape 11;reach a plain wide 11 bank 9;reach b plain wide 12 bank 9;"
                + "rope k at b pulls 1 bears 8;rope l at b pulls 2 bears 99"), 2, 2, 10, 1);
    }

    /** The flow is 99 less 8: by 7 wide it is 13 deep, and k, which bears 1, is burst. */
    private static void lacingWithoutBurstOnes() {
        check.says("Terms III", "not burst ones");
        RiverCorset x = Check.of("river flow 99 tape 9;reach a plain wide 10 bank 99;rope k at a pulls 1 bears 1;"
                + "rope l at a pulls 2 bears 50");
        x.seed(65536);
        x.year();
        check.fine(x, "k is burst", x.rope(0, 3), 2);
        x.rain(9);
        lacing("without k", x, 2, 2, 8, 1);
        x.mend(0);
        // k alone 9, l alone 8, both 7 wide.
        lacing("with k", x, 1, 3, 7, 3);
        x.undo();
        x.undo();
        x.ease(1);
        lacing("without k still, l being loose NOW", x, 2, 2, 8, 1);
        x.rain(410);
        // 410 by 8 is 51, above 50 less WEAR 1; 410 by 10 is out of law.
        lacing("neither k nor l", x, -2, -2, -2, 0);
    }

    private static void lengthOfLikeOnes() {
        check.says("Terms III", "LENGTH: of like ones the least bits");
        // m alone is 10 wide as k and l are: fewest is m, least bits are k and l; m BURSTS beside them.
        RiverCorset x = Check.of("river flow 99 tape 10;reach a plain wide 12 bank 99;rope k at a pulls 1 bears 9;"
                + "rope l at a pulls 1 bears 9;rope m at a pulls 2 bears 9");
        lacing("k and l, or m", x, 4, 3, 10, 2);
        check.says("Terms III", "LENGTH: the sum of WIDTHS of reaches with a LACED rope is least");
        // Two ropes at one reach: its WIDTH counts once; a reach without one doesn't.
        RiverCorset once = Check.of("river flow 9 tape 9;reach a plain wide 12 bank 99;reach b plain wide 9 bank 99;"
                + "rope k at a pulls 1 bears 99;rope l at a pulls 2 bears 99;rope m at b pulls 8 bears 99");
        lacing("a alone", once, 3, 3, 9, 2);
        // 9 and 1 by m would be 10: a reach more is never less.
        once.ease(0);
        lacing("whatever is LACED NOW", once, 3, 3, 9, 2);
        // More ropes at a reach that has one are less wide: down to 1.
        RiverCorset least = Check.of("river flow 1 tape 11;reach a plain wide 12 bank 99;rope k at a pulls 9 bears 99;"
                + "rope l at a pulls 9 bears 99;rope m at a pulls 9 bears 99");
        lacing("1 wide by k and l", least, 1, 3, 1, 7);
    }

    private static void lengthOfNone() {
        check.says("Promises 22, 23", "LENGTH: the sum; -2");
        RiverCorset x = Check.of(ALONE + ";rope k at a pulls 8 bears 9");
        lacing("none is LACED: 0", x, 0, 0, 0, 2);
        x.rain(10);
        // 10 by 1 SPILLS.
        lacing("none is LACED: 0", x, 0, 0, 0, 1);
        x.rain(90);
        lacing("it can't be", x, -2, -2, -2, 0);
    }

    private static void change(String what, RiverCorset x, int rope, int harm) {
        check.fine(x, "bestChange() " + what, x.bestChange(), rope);
        check.fine(x, "changeHarm() " + what, x.changeHarm(), harm);
    }

    private static void changeThatIsBetter() {
        check.says("Promises 25, 26", "-2 none is better than as it is");
        // 9 wide 11 deep: 18 SPILL; loose 10 wide and 9 deep by 99: none.
        RiverCorset x = Check.of("river flow 99 tape 40;reach a plain wide 10 bank 9;rope k at a pulls 1 bears 99");
        change("none SPILLS then", x, 0, 0);
        x.rain(100);
        // LACED 11 deep: 18; loose 10 deep: 10.
        change("less SPILLS then", x, 0, 10);
        x.ease(0);
        change("it is best as it is", x, -2, -2);
        x.rain(5);
        change("no HARM either way", x, -2, -2);
        RiverCorset like = Check.of("river flow 20 tape 40;reach a plain wide 4 bank 1;rope k at a pulls 2 bears 99");
        // 2 wide 10 deep: 18 SPILL; 4 wide 5 deep: 16 SPILL.
        change("16", like, 0, 16);
        RiverCorset same = Check.of("river flow 20 tape 40;reach a meadow wide 4 bank 1;rope k at a pulls 2 bears 99");
        change("a meadow: as much, which isn't better", same, -2, -2);
        RiverCorset none = Check.of("river flow 99 tape 40;reach a plain wide 3 bank 9");
        change("no ropes", none, -2, -2);
        // A plain reach of 3 SPILLS 99 less 27; so does one of 1 wide 99 less 9: the loose one is better by LACING nothing.
        RiverCorset laced = Check.of("river flow 80 tape 40;reach a meadow wide 8 bank 4;reach b cellar wide 10 bank 4;"
                + "rope k at a pulls 4 bears 1;loose k");
        // a 8 wide 10 deep: 48 SPILL, 24 back: 56; b 5 deep: 10 SPILL: 20. LACED: a 4 wide 20 deep: 64 SPILL: 48: b 4: 0.
        check.fine(laced, "harm()", laced.harm(), 20);
        change("LACED, though it BURSTS", laced, 0, 0);
        laced.lace(0);
        change("loose it is worse", laced, -2, -2);
    }

    private static void changeOfLikeOnes() {
        check.says("Promise 25", "HARM of all is least, the first such");
        RiverCorset x = Check.of("river flow 100 tape 40;reach a plain wide 12 bank 9;rope k at a pulls 1 bears 99;"
                + "rope l at a pulls 2 bears 99;rope m at a pulls 2 bears 99");
        // 7 wide 14 deep: 35; k loose 8 wide 12 deep: 24; l or m loose 9 wide 11 deep: 18.
        check.fine(x, "harm()", x.harm(), 35);
        change("l ahead of m", x, 1, 18);
        x.ease(1);
        // 9 wide: 18; k loose 10 wide 10 deep: 10; l LACED 35; m loose 11 wide 9 deep: 0.
        change("m", x, 2, 0);
        x.ease(2);
        change("none", x, -2, -2);
        RiverCorset last = Check.of("river flow 100 tape 40;reach a plain wide 40 bank 9;reach b plain wide 11 bank 9"
                + Check.many(";rope # at a pulls 1 bears 9", 6) + ";rope z at b pulls 2 bears 9");
        change("the last of seven", last, 6, 0);
    }

    private static void changeNotOfBurstOnes() {
        check.says("Promise 25", "(the other way than NOW, not burst)");
        RiverCorset x = Check.of("river flow 88 tape 40;reach a meadow wide 8 bank 4;reach b cellar wide 10 bank 4;"
                + "rope k at a pulls 4 bears 1;rope l at a pulls 3 bears 1");
        x.seed(65536);
        x.year();
        check.fine(x, "k is burst", x.rope(0, 3), 2);
        check.fine(x, "l is burst", x.rope(1, 3), 2);
        check.due("80", x.size(7), 80);
        check.fine(x, "harm()", x.harm(), 20);
        change("both burst", x, -2, -2);
        x.mend(1);
        // l LACED: 5 wide 16 deep: 60 SPILL, 30 back: 50: b 5 deep: 20: no better.
        change("l alone isn't better", x, -2, -2);
        x.mend(0);
        change("k mended", x, 0, 0);
    }

    // ---- boats, hands

    private static void passesAtItsBounds() {
        check.says("Terms III", "A boat PASSES a reach if its WIDTH is the boat's, or more, and its DEPTH likewise");
        RiverCorset x = Check.of("river flow 50 tape 40;reach a plain wide 10 bank 99;boat p wide 10 deep 5;"
                + "boat q wide 11 deep 5;boat r wide 10 deep 6;boat s wide 9 deep 4;boat t wide 11 deep 6");
        int[] passes = {1, 0, 0, 1, 0};
        for (int b = 0; b < 5; b++) {
            check.fine(x, "passes(" + b + ")", x.passes(b), passes[b]);
            check.fine(x, "stuck(" + b + ")", x.stuck(b), passes[b] == 1 ? -2 : 0);
            check.fine(x, "letThrough(" + b + ")", x.letThrough(b), passes[b] == 1 ? 0 : -2);
        }
        check.refused(x, "passes(5)", x.passes(5), 1);
        check.refused(x, "stuck(5)", x.stuck(5), 1);
        check.refused(x, "letThrough(5)", x.letThrough(5), 1);
        check.says("Promise 27", "Reaches that a boat PASSES, as bits");
        RiverCorset six = Check.of("river flow 50 tape 40" + Check.many(";reach # plain wide 10 bank 99", 6)
                + ";rope k at n pulls 1 bears 9;boat x wide 10 deep 0;boat y wide 1 deep 0;boat z wide 11 deep 0");
        check.fine(six, "all but one", six.passes(0), 59);
        check.fine(six, "all of six", six.passes(1), 63);
        check.fine(six, "none", six.passes(2), 0);
    }

    private static void stuckAtTheFirst() {
        check.says("Promise 28", "The first reach, down the river, at which it is stuck; -2");
        RiverCorset x = Check.of("river flow 50 tape 40;reach a plain wide 10 bank 99;reach b plain wide 5 bank 99;"
                + "reach c plain wide 10 bank 99;reach d plain wide 4 bank 99;boat p wide 5 deep 5;boat q wide 10 deep 0;"
                + "boat r wide 1 deep 6;boat s wide 4 deep 5");
        int[] stuck = {3, 1, 0, -2};
        for (int b = 0; b < 4; b++) {
            check.fine(x, "stuck(" + b + ")", x.stuck(b), stuck[b]);
        }
    }

    private static void letThroughOfTheFewest() {
        check.says("Terms III", "TO LET IT THROUGH: the fewest LACED ropes to be loose (no other changed); of like ones the least bits");
        RiverCorset x = Check.of("river flow 60 tape 40;reach a plain wide 12 bank 99;rope k at a pulls 1 bears 9;"
                + "rope l at a pulls 1 bears 9;rope m at a pulls 2 bears 9;rope n at a pulls 2 bears 9;"
                + "boat p wide 8 deep 1;boat q wide 10 deep 1;boat r wide 7 deep 8;boat s wide 12 deep 5;boat t wide 12 deep 6");
        // 6 wide: 8 by m or n, or by k and l; 10 by m and n.
        check.fine(x, "m", x.letThrough(0), 4);
        check.fine(x, "m and n", x.letThrough(1), 12);
        // 7 wide by k or by l: 60 by 7 is 8.
        check.fine(x, "k, which keeps it 8 deep", x.letThrough(2), 1);
        check.fine(x, "all four: 12 wide and 5 deep", x.letThrough(3), 15);
        check.says("Promise 29", "-2 it can't be");
        check.fine(x, "12 wide it isn't 6 deep", x.letThrough(4), -2);
        x.ease(2);
        check.fine(x, "0: it PASSES already", x.letThrough(0), 0);
        check.fine(x, "n of k, l and n", x.letThrough(1), 8);
        x.ease(3);
        check.fine(x, "k and l of those LACED", x.letThrough(3), 3);
        // 10 wide: no other is LACED for it.
        check.fine(x, "7 wide it can't be any more", x.letThrough(2), -2);
    }

    private static void letThroughOfAll() {
        check.says("Promise 29", "ropes, as bits: of all seven");
        RiverCorset x = Check.of("river flow 60 tape 40;reach a plain wide 30 bank 99" + Check.many(";rope # at a pulls 1 bears 9", 7)
                + ";boat w wide 30 deep 2;boat x wide 24 deep 2;boat y wide 23 deep 2;boat z wide 29 deep 1");
        check.fine(x, "all", x.letThrough(0), 127);
        check.fine(x, "one", x.letThrough(1), 1);
        check.fine(x, "none", x.letThrough(2), 0);
        check.fine(x, "six", x.letThrough(3), 63);
        RiverCorset none = Check.of(ALONE + ";boat p wide 9 deep 1;boat q wide 10 deep 0");
        check.fine(none, "no ropes, it PASSES", none.letThrough(0), 0);
        check.fine(none, "no ropes, it can't be", none.letThrough(1), -2);
        // All reaches must be PASSED, not the first alone.
        RiverCorset two = Check.of("river flow 60 tape 40;reach a plain wide 9 bank 99;reach b plain wide 9 bank 99;"
                + "rope k at b pulls 1 bears 9;boat p wide 9 deep 1");
        check.fine(two, "the last reach", two.letThrough(0), 1);
    }

    private static void bestBoat() {
        check.says("Promise 30", "The boat that PASSES most reaches, the first such");
        String reaches = "river flow 50 tape 40;reach a plain wide 10 bank 99;reach b plain wide 5 bank 99;reach c plain wide 9 bank 99";
        // 5, 10 and 5 deep.
        RiverCorset x = Check.of(reaches + ";boat p wide 10 deep 0;boat q wide 9 deep 0;boat r wide 1 deep 10;boat s wide 6 deep 0");
        check.fine(x, "1, 2, 1, 2", x.bestBoat(), 1);
        RiverCorset last = Check.of(reaches + Check.many(";boat # wide 30 deep 0", 4) + ";boat z wide 10 deep 0");
        check.fine(last, "the last of five", last.bestBoat(), 4);
        RiverCorset stuck = Check.of(reaches + ";boat p wide 30 deep 0;boat q wide 29 deep 0");
        check.fine(stuck, "0, 0: the first such", stuck.bestBoat(), 0);
        check.says("Promise 30", "-2 there is none");
        RiverCorset none = Check.of(reaches);
        check.fine(none, "no boats", none.bestBoat(), -2);
    }

    private static void needsOfHauling() {
        check.says("Terms III", "HAULING a rope needs what it pulls times DEPTH at its reach");
        RiverCorset x = Check.of("river flow 900 tape 40;reach a plain wide 3 bank 99;rope k at a pulls 9 bears 9;"
                + "rope l at a pulls 1 bears 9;loose l");
        x.rain(999);
        check.fine(x, "LACED: 9 times 999", x.needs(0), 8991);
        check.fine(x, "loose: 1 times 999", x.needs(1), 999);
        check.fine(x, "nobody hauls so much", x.hauls(0), -2);
        x.ease(0);
        check.fine(x, "9 times 333", x.needs(0), 2997);
        x.rain(2);
        check.fine(x, "9 times 0", x.needs(0), 0);
        RiverCorset burst = Check.of("river flow 38 tape 40;reach a plain wide 3 bank 99;rope k at a pulls 2 bears 9;hand h strong 20");
        burst.seed(65536);
        burst.year();
        check.fine(burst, "burst", burst.rope(0, 3), 2);
        check.fine(burst, "of a burst one: 2 times 10", burst.needs(0), 20);
        check.fine(burst, "h hauls it", burst.hauls(0), 1);
    }

    private static void haulsOfTheFewest() {
        check.says("Terms III", "HAULING: the fewest hands who are so strong together; of like ones the least bits");
        // A loose rope that pulls 1: as much as the water is deep.
        String text = "river flow 30 tape 40;reach a plain wide 3 bank 99;rope k at a pulls 1 bears 9;loose k"
                + ";hand g strong 5;hand h strong 5;hand i strong 10;hand j strong 10";
        RiverCorset x = Check.of(text);
        check.fine(x, "10: i, rather than g and h, ahead of j", x.hauls(0), 4);
        x.rain(15);
        check.fine(x, "5: g", x.hauls(0), 1);
        x.rain(18);
        check.fine(x, "6: i", x.hauls(0), 4);
        x.rain(33);
        check.fine(x, "11: g and i", x.hauls(0), 5);
        x.rain(48);
        check.fine(x, "16: i and j", x.hauls(0), 12);
        x.rain(63);
        check.fine(x, "21: g, i and j", x.hauls(0), 13);
    }

    private static void haulsAtItsBounds() {
        check.says("Promise 32", "Hands, as bits; -2 all aren't strong enough");
        RiverCorset x = Check.of("river flow 18 tape 40;reach a plain wide 3 bank 99;rope k at a pulls 1 bears 9;loose k"
                + Check.many(";hand # strong 1", 6));
        check.fine(x, "6: all six", x.hauls(0), 63);
        x.rain(20);
        check.fine(x, "6 by 20, too", x.hauls(0), 63);
        x.rain(21);
        check.fine(x, "7 is too much", x.hauls(0), -2);
        x.rain(3);
        check.fine(x, "1: the first", x.hauls(0), 1);
        x.rain(2);
        check.fine(x, "0: nobody", x.hauls(0), 0);
        RiverCorset none = Check.of("river flow 2 tape 40;reach a plain wide 3 bank 99;rope k at a pulls 1 bears 9;loose k");
        check.fine(none, "no hands, nothing to haul", none.hauls(0), 0);
        none.rain(3);
        check.fine(none, "no hands, 1 to haul", none.hauls(0), -2);
    }

    // ---- let out

    private static void letOut(String what, RiverCorset x, int fits, int could, int surely) {
        check.fine(x, "fits() " + what, x.fits(), fits);
        check.fine(x, "could() " + what, x.could(), could);
        check.fine(x, "surely() " + what, x.surely(), surely);
    }

    private static void ask(String what, RiverCorset x, int ask, int leaves) {
        check.fine(x, "ask() " + what, x.ask(), ask);
        check.fine(x, "askLeaves() " + what, x.askLeaves(), leaves);
    }

    private static void letOutOfAll() {
        check.says("Promise 33", "LET OUT: how many sets");
        String seven = "river flow 40 tape 40;reach a plain wide 30 bank 99" + Check.many(";rope # at a pulls 1 bears 9", 7);
        // 40 by 23 to 30 is 1 each time.
        letOut("no mud: all sets", Check.of(seven), 128, 127, 0);
        ask("no mud", Check.of(seven), 0, 128);
        letOut("mud as it is by each", Check.of(seven + ";mud a deep 1"), 128, 127, 0);
        RiverCorset none = Check.of(ALONE);
        letOut("no ropes: the empty set", none, 1, 0, 0);
        ask("no ropes", none, 0, 1);
        check.says("Terms III", "so that DEPTH at each reach whose mud is told was so much: all that fit");
        // 60 by 23 to 29 is 2, by 30 2; 58 by 29 is 2, by 30 1: all were loose.
        RiverCorset all = Check.of(seven + ";mud a deep 1");
        all.rain(58);
        letOut("all were loose", all, 1, 127, 127);
        all.rain(57);
        // 57 by 29 is 1: all, or all but one.
        letOut("all, or all but one", all, 8, 127, 0);
        all.rain(46);
        // 46 by 23 is 2: not none of them.
        letOut("one at least", all, 127, 127, 0);
    }

    private static void letOutOfNone() {
        check.says("Promises 34, 35", "Ropes that are in some; in all (0, if there are no sets)");
        RiverCorset x = Check.of("river flow 40 tape 40;reach a plain wide 10 bank 99;rope k at a pulls 2 bears 9;mud a deep 7");
        // 8 wide 5 deep, 10 wide 4 deep.
        letOut("no sets", x, 0, 0, 0);
        x.rain(70);
        letOut("k", x, 1, 1, 1);
        x.rain(56);
        letOut("the empty set", x, 1, 0, 0);
        RiverCorset two = Check.of("river flow 40 tape 40;reach a plain wide 10 bank 99;reach b plain wide 10 bank 99;"
                + "rope k at a pulls 2 bears 9;rope l at b pulls 2 bears 9;mud a deep 4;mud b deep 5");
        letOut("k was loose, l wasn't", two, 1, 1, 1);
        two.rain(50);
        // a 6 or 5, b 6 or 5.
        letOut("mud of a tells of none", two, 0, 0, 0);
    }

    private static void letOutOthersAsNow() {
        check.says("Terms III", "sets of LACED ropes that may have been loose that night (the others as NOW)");
        RiverCorset x = Check.of("river flow 40 tape 40;reach a plain wide 10 bank 99;rope k at a pulls 2 bears 9;"
                + "rope l at a pulls 2 bears 99;loose k;mud a deep 4");
        // l loose 10 wide 4 deep; l LACED 8 wide 5 deep; k isn't LACED.
        letOut("k is loose", x, 1, 2, 2);
        x.lace(0);
        // 6 wide 6 deep; 8 wide 5; 10 wide 4: both.
        letOut("k and l", x, 1, 3, 3);
        x.rain(32);
        // 6 wide 5; 8 wide 4: k or l; 10 wide 3.
        letOut("k or l", x, 2, 3, 0);
        x.ease(0);
        x.ease(1);
        letOut("none LACED, it was 3 deep", x, 0, 0, 0);
        x.rain(49);
        letOut("none LACED, it was 4 deep", x, 1, 0, 0);
    }

    private static void askOfLikeOnes() {
        check.says("Terms III", "ASK: the reach without mud at which, DEPTH being told, at most fewest are left, the first such");
        String text = "river flow 60 tape 40;reach a plain wide 10 bank 99;reach b plain wide 10 bank 99;reach c plain wide 10 bank 99;"
                + "reach d plain wide 10 bank 99;rope k at b pulls 4 bears 99;rope l at c pulls 4 bears 99;"
                + "rope m at d pulls 4 bears 99;rope n at d pulls 4 bears 99";
        // 16 sets: b and c part them by 8; d by 4, 8 and 4.
        ask("b, c and d like ones: the first", Check.of(text), 1, 8);
        // 6, 7 or 8 or so: n that pulls 5 parts d by 4 each.
        ask("d leaves 4", Check.of(text.replace("rope n at d pulls 4", "rope n at d pulls 5")), 3, 4);
        ask("b has mud: c and d leave 4, too", Check.of(text + ";mud b deep 6"), 2, 4);
        ask("b and c have mud: d", Check.of(text + ";mud b deep 6;mud c deep 6"), 3, 2);
        ask("b, c and d have mud: a", Check.of(text + ";mud b deep 6;mud c deep 6;mud d deep 6"), 0, 1);
        // 7 deep is never so in d; 10 by k or n alone loose.
        ask("d: two sets", Check.of(text + ";mud b deep 10;mud c deep 10;mud d deep 10"), 0, 2);
        ask("none loose", Check.of(text + ";mud b deep 10;mud c deep 10;mud d deep 30"), 0, 1);
    }

    private static void askAtTheFirst() {
        check.says("Terms III", "ASK: at most fewest are left: the first reach itself, and the deepest water");
        // a by 8, 10 or 12 wide: 7, 6 and 5 deep: 1, 2 and 1 sets; b is as it is.
        RiverCorset x = Check.of("river flow 60 tape 40;reach a plain wide 12 bank 99;reach b plain wide 10 bank 99;"
                + "rope k at a pulls 2 bears 99;rope l at a pulls 2 bears 99");
        ask("a parts them", x, 0, 2);
        RiverCorset b = Check.of("river flow 60 tape 40;reach b plain wide 10 bank 99;reach a plain wide 12 bank 99;"
                + "rope k at a pulls 2 bears 99;rope l at a pulls 2 bears 99");
        ask("the last parts them", b, 1, 2);
        // 999 by 1, by 2 and by 3 wide.
        RiverCorset deep = Check.of("river flow 900 tape 40;reach a plain wide 3 bank 99;rope k at a pulls 1 bears 99;"
                + "rope l at a pulls 1 bears 99");
        deep.rain(999);
        check.fine(deep, "999 deep", deep.reach(0, 5), 999);
        ask("999, 499 or 333 deep", deep, 0, 2);
        deep.rain(1);
        ask("1, 0 or 0 deep", deep, 0, 3);
        // Asked again, nothing is left of what was counted.
        ask("again", deep, 0, 3);
    }

    private static void askOfNone() {
        check.says("Promises 36, 37", "-2 all have mud, or there are no sets");
        RiverCorset x = Check.of("river flow 40 tape 40;reach a plain wide 10 bank 99;reach b plain wide 10 bank 99;mud a deep 4");
        ask("b has none", x, 1, 1);
        x.rain(50);
        ask("no sets", x, -2, -2);
        RiverCorset all = Check.of("river flow 40 tape 40;reach a plain wide 10 bank 99;mud a deep 4");
        ask("all have mud", all, -2, -2);
        all.rain(50);
        ask("all have mud, no sets", all, -2, -2);
        RiverCorset six = Check.of("river flow 40 tape 40" + Check.many(";reach # plain wide 10 bank 99", 6) + Check.many(";mud # deep 4", 5));
        ask("the last of six", six, 5, 1);
    }

    private static void judgeTheFirst() {
        check.says("Promise 38", "The first reach whose mud isn't as DEPTH is NOW, by numbers of reaches; -2");
        RiverCorset x = Check.of("river flow 40 tape 40;reach a plain wide 10 bank 99;reach b plain wide 8 bank 99;"
                + "reach c plain wide 5 bank 99;mud c deep 8;mud a deep 4");
        check.fine(x, "4, none, 8", x.judge(), -2);
        x.rain(39);
        check.fine(x, "3, none, 7: the first", x.judge(), 0);
        x.rain(45);
        check.fine(x, "4, none, 9", x.judge(), 2);
        RiverCorset none = Check.of(ALONE);
        check.fine(none, "no mud", none.judge(), -2);
        String reaches = "river flow 40 tape 40" + Check.many(";reach # plain wide 10 bank 99", 6);
        RiverCorset six = Check.of(reaches);
        check.fine(six, "six reaches, no mud", six.judge(), -2);
        six = Check.of(reaches + Check.many(";mud # deep 4", 6));
        check.fine(six, "six reaches, all as NOW", six.judge(), -2);
        six = Check.of(reaches + Check.many(";mud # deep 4", 5) + ";mud q deep 5");
        check.fine(six, "the last of six", six.judge(), 5);
        RiverCorset loose = Check.of("river flow 40 tape 40;reach a plain wide 10 bank 99;rope k at a pulls 2 bears 9;mud a deep 4");
        check.fine(loose, "LACED as NOW", loose.judge(), 0);
        loose.ease(0);
        check.fine(loose, "loose as NOW", loose.judge(), -2);
    }

    // ---- parishes

    private static void parishPulls() {
        check.says("Promise 39", "What the one (or other, the other one) has by both's pulls (0 .. 5)");
        // By pulls of a, 10 wide with a bank of 9 by 99: 9, 11, 12, 14, 16, 19 deep: 0, 18, 24, 35, 42, 50 SPILL.
        RiverCorset x = Check.of("river flow 99 tape 40;reach a plain wide 10 bank 9;reach b plain wide 9 bank 99;reach c cellar wide 8 bank 9");
        int[] ones = {0, 3 - 18, 6 - 24, 9 - 35, 12 - 42, 15 - 50};
        for (int pull = 0; pull <= 5; pull++) {
            check.fine(x, "the one by " + pull, x.parish(pull, 0, false), ones[pull]);
            check.fine(x, "the one by " + pull + " and 5", x.parish(pull, 5, false), ones[pull]);
        }
        // All 99 come: c 12 deep by 8: 24 SPILL, twice 48; by 5 less 3 wide 33 deep: 72, twice 144.
        check.fine(x, "the other one by 0, 0", x.parish(0, 0, true), -48);
        check.fine(x, "the other one by 0, 5", x.parish(0, 5, true), 15 - 144);
        // By 5 49 come: c 6 deep by 8; by 3 16 deep: 21, twice 42.
        check.fine(x, "the other one by 5, 0", x.parish(5, 0, true), 0);
        check.fine(x, "the other one by 5, 5", x.parish(5, 5, true), 15 - 42);
        check.says("Promise 39", "-10,000: 1 (no RIVER, one reach alone); 2");
        check.due("parish(-1, 0)", x.parish(-1, 0, false), -10000);
        check.due("trouble()", x.trouble(), 2);
        check.due("parish(0, 6)", x.parish(0, 6, true), -10000);
        check.due("trouble()", x.trouble(), 2);
        check.due("nothing is pulled by asking", x.reach(0, 3), 10);
        RiverCorset alone = Check.of(ALONE);
        check.due("one reach alone", alone.parish(0, 0, false), -10000);
        check.due("trouble()", alone.trouble(), 1);
    }

    private static void parishWidths() {
        check.says("Terms III", "each pulls 0 .. 5 more (WIDTH is so much less, 1 at least)");
        // a is 3 wide, b 1 wide by its rope.
        RiverCorset x = Check.of("river flow 20 tape 40;reach a plain wide 3 bank 9;reach b bridge wide 4 bank 9;rope k at b pulls 9 bears 9");
        // 6 deep by 3, 10 by 2: 2 SPILL; by 1 20 deep: 11 SPILL, by 3, 4 and 5 likewise.
        int[] ones = {0, 3 - 2, 6 - 11, 9 - 11, 12 - 11, 15 - 11};
        for (int pull = 0; pull <= 5; pull++) {
            check.fine(x, "the one by " + pull, x.parish(pull, 0, false), ones[pull]);
        }
        // b is 1 wide by each pull: 20 come: 11 SPILL and 20.
        for (int pull = 0; pull <= 5; pull++) {
            check.fine(x, "the other one by " + pull, x.parish(0, pull, true), 3 * pull - 31);
            // 9 come: 9 deep.
            check.fine(x, "the other one by 2 and " + pull, x.parish(2, pull, true), 3 * pull);
        }
        check.says("Promises 40, 41", "RESTS of two reaches");
        // The one has most, 4, by 5; then the other one 15 by 5.
        check.fine(x, "rests()", x.rests(), 1);
        check.fine(x, "rest()", x.rest(), 55);
    }

    private static void restsOfLikeOnes() {
        check.says("Terms III", "REST: a pair by which neither could have more alone");
        // a by 30: 5 wide 6 deep: -5; 4 wide 7 deep, 8: -5; 3: 10, 15: -9; 2: 15, 20: -11; 1: 30, 25: -13; -10.
        // 25 come by 0, 22 by 1: b 9 wide never SPILLS.
        RiverCorset x = Check.of("river flow 30 tape 40;reach a plain wide 5 bank 5;reach b plain wide 9 bank 99");
        check.fine(x, "rests(): as much isn't more", x.rests(), 2);
        check.fine(x, "rest()", x.rest(), 5);
        RiverCorset both = Check.of("river flow 30 tape 40;reach a plain wide 5 bank 5;reach b plain wide 5 bank 4");
        // b by 25: 5 wide 5 deep, 5: -5; 4: 6, 8: -5; 3: 8, 12: -6; 2: 12, 16: -7; 1: 25, 21: -9; -6.
        // b by 22: 5 wide 4 deep: 0; 4: 5, 4: -1; 3: 7, 9: -3; 2: 11, 14: -5; 1: 22, 18: -6; -3.
        check.fine(both, "rests() 00, 01 and 10", both.rests(), 3);
        check.fine(both, "rest()", both.rest(), 0);
    }

    private static void restIsTheFirst() {
        check.says("Promise 41", "The first, by the one's pulls, then the other one's: 10 times and; -2");
        // The one's own HARM never hangs on the other's pull, so that there always is one.
        RiverCorset meadows = Check.of("river flow 900 tape 40;reach a meadow wide 3 bank 1;reach b meadow wide 3 bank 1");
        check.fine(meadows, "rests() of meadows", meadows.rests(), 1);
        check.fine(meadows, "rest() of meadows", meadows.rest(), 55);
        // The one does best by 0: 9 deep; by less it SPILLS more than it has. b is a meadow: 5.
        RiverCorset x = Check.of("river flow 99 tape 40;reach a plain wide 10 bank 9;reach b meadow wide 3 bank 1");
        check.fine(x, "rest() 05", x.rest(), 5);
        RiverCorset y = Check.of("river flow 99 tape 40;reach b meadow wide 10 bank 99;reach a cellar wide 10 bank 9");
        check.fine(y, "rest() 50", y.rest(), 50);
        check.fine(y, "rests() of it", y.rests(), 1);
        // The reaches between them don't pull.
        RiverCorset six = Check.of("river flow 9 tape 40" + Check.many(";reach # plain wide 10 bank 99", 6));
        check.fine(six, "rest() of six", six.rest(), 55);
        check.fine(six, "the other one is the last", six.parish(0, 4, true), 12);
    }
}
