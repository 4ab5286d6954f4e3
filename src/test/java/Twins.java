import java.util.function.Consumer;
import java.util.function.ToLongFunction;

/**
 * Two objects that have gone the same way: one gets a call more, and if that call must leave all as
 * it was, each later answer of both is the same. No object gets more than 512 calls.
 */
final class Twins {
    private static final String[] REST = {"river flow 9 tape 9;", "reach z cellar wide ", "4 bank 2"};
    private final Check check;

    Twins(Check check) {
        this.check = check;
    }

    /** The first part of a text that is left on THE TAPE, to see whether it stays. */
    static void leaveOnTape(RiverCorset x) {
        Check.feed(x, REST[0]);
    }

    /** A refused call: its answer, its number, and that nothing else has changed. */
    void refused(String call, Consumer<RiverCorset> way, ToLongFunction<RiverCorset> last, long answer, int number) {
        RiverCorset x = gone(way);
        check.due(call, last.applyAsLong(x), answer);
        check.due("trouble() behind " + call, x.trouble(), number);
        check.due("where() behind " + call, x.where(), -1);
        unchanged(call, way, last);
    }

    /** A call that wasn't refused and isn't one that changes anything: TROUBLE is 0, all else as it was. */
    void asked(String call, Consumer<RiverCorset> way, ToLongFunction<RiverCorset> last) {
        RiverCorset x = gone(way);
        x.reach(-1, 0);
        last.applyAsLong(x);
        check.due("trouble() behind " + call, x.trouble(), 0);
        unchanged(call, way, last);
    }

    void unchanged(String call, Consumer<RiverCorset> way, ToLongFunction<RiverCorset> last) {
        RiverCorset[] more = new RiverCorset[3];
        RiverCorset[] less = new RiverCorset[3];
        for (int i = 0; i < 3; i++) {
            more[i] = gone(way);
            less[i] = gone(way);
            last.applyAsLong(more[i]);
        }
        check.same("behind " + call, now(more[0]), now(less[0]));
        check.same("what can be undone behind " + call, past(more[1]), past(less[1]));
        check.same("THE TAPE behind " + call, tape(more[2]), tape(less[2]));
    }

    private static RiverCorset gone(Consumer<RiverCorset> way) {
        RiverCorset x = new RiverCorset();
        way.accept(x);
        return x;
    }

    /** Every answer there is but TROUBLE and the place of a FAULT, each a line. */
    static String now(RiverCorset x) {
        StringBuilder all = new StringBuilder();
        line(all, "fault", x.fault());
        for (int what = 0; what <= 11; what++) {
            line(all, "size " + what, x.size(what));
        }
        for (int r = 0; r < 6; r++) {
            for (int what = 0; what <= 7; what++) {
                line(all, "reach " + r + " " + what, x.reach(r, what));
            }
            line(all, "spillsAt " + r, x.spillsAt(r));
        }
        for (int k = 0; k < 7; k++) {
            for (int what = 0; what <= 5; what++) {
                line(all, "rope " + k + " " + what, x.rope(k, what));
            }
            line(all, "burstsAt " + k, x.burstsAt(k));
            line(all, "hauls " + k, x.hauls(k));
            line(all, "yearOf " + k, x.yearOf(k, 5));
            line(all, "led " + k, Check.hasLed(x, k) ? x.led(k) : -7);
        }
        for (int b = 0; b < 5; b++) {
            line(all, "passes " + b, x.passes(b));
            line(all, "letThrough " + b, x.letThrough(b));
        }
        ofWhole(all, x);
        return all.toString();
    }

    private static void ofWhole(StringBuilder all, RiverCorset x) {
        int[] answers = {x.below(), x.harm(), x.spills(), x.outOfLaw(), x.narrowest(), x.worn(), x.spilt(),
            x.harmBy(77), x.bursts(77), x.safeFlow(), x.lacing(), x.length(), x.lengthSum(), x.lacings(),
            x.bestChange(), x.changeHarm(), x.bestBoat(), x.fits(), x.could(), x.surely(), x.ask(), x.askLeaves(),
            x.judge(), x.parish(2, 3, false), x.parish(2, 3, true), x.rests(), x.rest(), x.century(5, 20),
            x.burstBy(5, 20), x.firstFlood(5, 60)};
        for (int i = 0; i < answers.length; i++) {
            line(all, "answer " + i + " of the whole", answers[i]);
        }
    }

    private static void line(StringBuilder all, String call, long answer) {
        all.append(call).append(" answered ").append(answer).append('\n');
    }

    /** All that can be undone, and then all MARKS, with what ACTS change at each. */
    static String past(RiverCorset x) {
        StringBuilder all = new StringBuilder();
        state(all, x);
        for (int i = 0; i < 16 && x.undo(); i++) {
            state(all, x);
        }
        for (int mark = 0; mark < 3 && x.back(mark); mark++) {
            state(all, x);
        }
        return all.toString();
    }

    private static void state(StringBuilder all, RiverCorset x) {
        for (int what = 7; what <= 10; what++) {
            line(all, "size " + what, x.size(what));
        }
        for (int k = 0; k < Math.min(7, x.size(3)); k++) {
            line(all, "rope " + k + " 3", x.rope(k, 3));
            line(all, "rope " + k + " 4", x.rope(k, 4));
        }
    }

    /** What the bytes on THE TAPE tell with the rest of their text behind them. */
    private static String tape(RiverCorset x) {
        StringBuilder all = new StringBuilder();
        Check.feed(x, REST[1]);
        Check.feed(x, REST[2]);
        line(all, "river", x.river(Math.min(48, x.size(11))));
        line(all, "trouble", x.trouble());
        line(all, "fault", x.fault());
        line(all, "where", x.where());
        line(all, "bank", x.reach(0, 2));
        return all.toString();
    }
}
