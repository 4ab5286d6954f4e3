/** Promises 2 to 5: THE TAPE, THE TEXT and its FAULTS. */
public final class FaultsTest {
    private static final Check check = new Check();
    private static final String HEAD = "river flow 100 tape 12;";
    private static final String ONE = HEAD + "reach a plain wide 9 bank 9;";
    private static final String TWO = ONE + "rope k at a pulls 1 bears 9;";

    private static void fault(int number, String marked) {
        check.fault(number, marked);
    }

    private static void good(int reaches, String text) {
        check.good(reaches, text);
    }

    private static String many(String line, int times) {
        return Check.many(line, times);
    }

    public static void main(String[] args) {
        tape();
        goodTexts();
        forms();
        ends();
        names();
        bounds();
        manyAndLacks();
        firstFromTheLeft();
        riverStays();
        whereIsOfTheLatest();
        check.end("FaultsTest");
    }

    private static void tape() {
        RiverCorset x = new RiverCorset();
        for (int i = 1; i <= 45; i++) {
            check.due("feed " + i, x.feed(0x20202020, 0x20202020, 0x20202020, 0x20202020, 0x20202020), 20 * i);
        }
        check.due("feed 46", x.feed(1, 2, 3, 4, 5), -1);
        check.due("trouble() behind feed", x.trouble(), 0);
        check.due("size(11)", x.size(11), 900);
        check.refused(x, "river(901)", x.river(901), 2);
        check.refused(x, "river(-1)", x.river(-1), 2);
        check.due("size(11) stays", x.size(11), 900);
        check.due("fault()", x.fault(), 0);
        check.due("where()", x.where(), -1);
        check.refused(x, "river(900)", x.river(900), 4);
        check.due("where() at 900", x.where(), 900);
        check.due("fault()", x.fault(), 1);
        check.due("size(11) empty", x.size(11), 0);
        check.due("feed", x.feed(-1, 0, 0, 0, 0), 20);
        check.due("trouble() stays behind feed", x.trouble(), 4);
        check.due("where() stays behind feed", x.where(), 900);
        check.refused(x, "river(21)", x.river(21), 2);
        check.due("fault() stays behind 2", x.fault(), 1);
        check.due("where() behind 2", x.where(), -1);
        check.refused(x, "river(20)", x.river(20), 4);
        check.due("where() of byte 255", x.where(), 0);
        full();
    }

    /** A text of 900 bytes; and one of which the first n bytes alone count. */
    private static void full() {
        String text = (HEAD + "reach a plain wide 9 bank 9").indent(850).stripTrailing();
        String whole = text + " ".repeat(900 - text.length());
        good(1, whole);
        RiverCorset x = new RiverCorset();
        Check.feed(x, ONE + "what is this");
        check.fine(x, "river of the first bytes", x.river(ONE.length() - 1), 1);
        Check.feed(x, "river flow 1234");
        check.refused(x, "river cut in a WHOLE", x.river(14), 4);
        check.due("where() behind the cut", x.where(), 14);
    }

    private static void goodTexts() {
        good(1, "river flow 1 tape 2;reach a plain wide 3 bank 1");
        good(1, "river flow 900 tape 40;reach a bridge wide 40 bank 99");
        good(1, "  river  flow 007tape40 ; reach a meadow wide 03 bank 001  ");
        good(1, "river flow9tape9;reach abcdefgh cellar wide9bank9");
        good(1, HEAD + "reach plain plain wide 9 bank 9;rope flow at plain pulls 1 bears 1;loose flow;"
                + "hand at strong 1;boat tape wide 1 deep 0;mud plain deep 0");
        good(6, HEAD + many("reach # plain wide 40 bank 99;", 6) + many("rope b# at l pulls 9 bears 99;", 7)
                + many("hand h# strong 99;", 6) + many("boat s# wide 30 deep 60;", 5)
                + many("mud # deep 900;", 6) + many("loose b#;", 6) + "loose br");
        good(2, TWO + "mud a deep 1;loose k;reach b bridge wide 9 bank 9;rope m at b pulls 1 bears 1");
    }

    private static void forms() {
        fault(1, "");
        fault(1, "^;");
        fault(1, "^x");
        fault(1, "^12");
        fault(1, "^abcdefghi");
        fault(1, "^River flow 1 tape 2");
        fault(1, "river ^tape 2");
        fault(1, "river flow ^flow 3");
        fault(1, "river flow ^1000 tape 2");
        fault(1, "river flow ^; tape 2");
        fault(1, "river flow 1 ^flow 2");
        fault(1, "river flow 1 tape ^wide");
        fault(1, "river flow 1 tape 2 ^reach");
        fault(1, "river flow 1 tape 2 ^3");
        fault(1, HEAD + "^flow");
        fault(1, HEAD + "^;reach a plain wide 9 bank 9");
        fault(1, HEAD + "reach ^river plain wide 9 bank 9");
        fault(1, HEAD + "reach ^reach plain wide 9 bank 9");
        fault(1, HEAD + "reach ^9 plain wide 9 bank 9");
        fault(1, HEAD + "reach ^abcdefghi plain wide 9 bank 9");
        fault(1, HEAD + "reach a ^wide 9 bank 9");
        fault(1, HEAD + "reach a ^plains wide 9 bank 9");
        fault(1, HEAD + "reach a plain ^bank 9");
        fault(1, HEAD + "reach a plain wide 9 ^wide 9");
        fault(1, HEAD + "reach a plain wide 9 bank 9^\n");
        fault(1, HEAD + "reach a plain wide 9 bank 9^,");
        fault(1, HEAD + "reach a plain wide 9 bank 9^" + (char) 225);
        fault(1, ONE + "rope ^rope at a pulls 1 bears 1");
        fault(1, ONE + "rope k ^a pulls 1 bears 1");
        fault(1, ONE + "rope k at ^boat pulls 1 bears 1");
        fault(1, ONE + "rope k at ^1 pulls 1 bears 1");
        fault(1, ONE + "rope k at a ^bears 1");
        fault(1, ONE + "rope k at a pulls 1 ^pulls 1");
        fault(1, TWO + "loose ^loose");
        fault(1, TWO + "loose k ^k");
        fault(1, TWO + "loose ^7");
        fault(1, TWO + "hand ^hand strong 1");
        fault(1, TWO + "hand h ^wide 1");
        fault(1, TWO + "boat ^boat wide 1 deep 1");
        fault(1, TWO + "boat b ^deep 1");
        fault(1, TWO + "boat b wide 1 ^wide 1");
        fault(1, TWO + "mud ^mud deep 1");
        fault(1, TWO + "mud a ^wide 1");
        fault(1, TWO + "mud a deep ^k");
    }

    private static void ends() {
        fault(1, "   ");
        fault(1, "river");
        fault(1, "river flow");
        fault(1, "river flow 1");
        fault(1, "river flow 1 tape  ");
        fault(6, "river flow 1 tape 2");
        fault(6, "river flow 1 tape 2   ");
        fault(1, "river flow 1 tape 2;");
        fault(1, HEAD + "reach");
        fault(1, HEAD + "reach a");
        fault(1, HEAD + "reach a plain");
        fault(1, HEAD + "reach a plain wide");
        fault(1, HEAD + "reach a plain wide 9");
        fault(1, HEAD + "reach a plain wide 9 bank");
        fault(1, ONE);
        fault(1, ONE + "rope k at");
        fault(1, TWO + "loose");
        fault(1, TWO + "mud a deep");
        fault(1, HEAD + "hand h strong");
        fault(6, HEAD + "hand h strong 1");
    }

    private static void names() {
        fault(2, ONE + "rope k at ^b pulls 1 bears 1");
        fault(2, ONE + "rope k at ^k pulls 1 bears 1");
        fault(2, HEAD + "rope k at ^a pulls 1 bears 1;reach a plain wide 9 bank 9");
        fault(2, TWO + "loose ^m");
        fault(2, TWO + "loose ^a");
        fault(2, TWO + "hand h strong 1;loose ^h");
        fault(2, TWO + "mud ^k deep 1");
        fault(2, TWO + "mud ^b deep 1");
        fault(2, TWO + "boat b wide 1 deep 1;mud ^b deep 1");
        fault(3, ONE + "reach ^a plain wide 9 bank 9");
        fault(3, ONE + "rope ^a at a pulls 1 bears 1");
        fault(3, TWO + "rope ^k at a pulls 1 bears 1");
        fault(3, TWO + "hand ^k strong 1");
        fault(3, TWO + "hand h strong 1;boat ^h wide 1 deep 1");
        fault(3, TWO + "boat b wide 1 deep 1;reach ^b plain wide 9 bank 9");
        fault(3, TWO + "loose k;loose ^k");
        fault(3, TWO + "mud a deep 0;mud ^a deep 0");
        fault(3, TWO + "^river flow 1 tape 2");
        fault(3, HEAD + "^river");
    }

    private static void bounds() {
        fault(4, "river flow ^0 tape 2");
        fault(4, "river flow ^901 tape 2");
        fault(4, "river flow 900 tape ^1");
        fault(4, "river flow 1 tape ^41");
        fault(4, HEAD + "reach a plain wide ^2 bank 1");
        fault(4, HEAD + "reach a plain wide ^41 bank 1");
        fault(4, HEAD + "reach a plain wide 40 bank ^0");
        fault(4, HEAD + "reach a plain wide 3 bank ^100");
        fault(4, ONE + "rope k at a pulls ^0 bears 1");
        fault(4, ONE + "rope k at a pulls ^10 bears 1");
        fault(4, ONE + "rope k at a pulls 9 bears ^0");
        fault(4, ONE + "rope k at a pulls 1 bears ^100");
        fault(4, ONE + "hand h strong ^0");
        fault(4, ONE + "hand h strong ^100");
        fault(4, ONE + "boat b wide ^0 deep 0");
        fault(4, ONE + "boat b wide ^31 deep 0");
        fault(4, ONE + "boat b wide 1 deep ^61");
        fault(4, ONE + "mud a deep ^901");
    }

    private static void manyAndLacks() {
        fault(5, HEAD + many("reach # plain wide 9 bank 9;", 6) + "^reach z");
        fault(5, ONE + many("rope # at a pulls 1 bears 1;", 7) + "^rope a");
        fault(5, ONE + many("hand # strong 1;", 6) + "^hand");
        fault(5, ONE + many("boat # wide 1 deep 1;", 5) + "^boat river");
        fault(6, "^reach");
        fault(6, "^rope k at a");
        fault(6, " ^loose");
        fault(6, "^hand");
        fault(6, "^boat");
        fault(6, "^mud a; river flow 1 tape 2");
    }

    private static void firstFromTheLeft() {
        fault(4, "river flow ^0 tape 99;x");
        fault(2, TWO + "mud ^x deep 999;loose y");
        fault(3, TWO + "reach ^a odd wide 1");
        fault(1, TWO + "reach b ^odd wide 1");
        fault(3, TWO + "boat ^a wide 99");
    }

    private static void riverStays() {
        RiverCorset x = Check.of(TWO + "hand h strong 3");
        x.ease(0);
        x.seed(7);
        x.mark();
        check.refused(x, "a FAULT", Check.river(x, HEAD + "reach zz odd"), 4);
        check.due("reaches stay", x.size(2), 1);
        check.due("hands stay", x.size(4), 1);
        check.due("SEED stays", x.size(8), 7);
        check.due("ACTS stay", x.size(9), 1);
        check.due("MARKS stay", x.size(10), 1);
        check.fine(x, "rope(0, 3)", x.rope(0, 3), 0);
        check.fine(x, "another RIVER", Check.river(x, HEAD + "reach b cellar wide 9 bank 9"), 1);
        check.due("no ropes", x.size(3), 0);
        check.due("no hands", x.size(4), 0);
        check.due("SEED 0", x.size(8), 0);
        check.due("nothing to undo", x.size(9), 0);
        check.due("no MARKS", x.size(10), 0);
        check.due("fault()", x.fault(), 0);
        check.fine(x, "reach(0, 0)", x.reach(0, 0), 2);
    }

    private static void whereIsOfTheLatest() {
        RiverCorset x = new RiverCorset();
        Check.river(x, "river  x");
        check.due("where()", x.where(), 7);
        check.due("size(3) is never refused", x.size(3), 0);
        check.due("led(0)", Check.hasLed(x, 0), false);
        check.due("where() stays", x.where(), 7);
        check.refused(x, "undo()", x.undo(), 6);
        check.due("where() behind undo()", x.where(), -1);
        check.due("fault() stays", x.fault(), 1);
    }
}
