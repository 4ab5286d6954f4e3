import java.util.List;

/** Terms I and promises 1 to 5: each bound of THE TAPE and of THE TEXT, just inside and just outside it. */
public final class TextBoundsTest {
    private static final Check check = new Check();
    private static final int BLANK = 0x20202020;
    private static final String HEAD = "river flow 100 tape 12;";
    private static final String ONE = HEAD + "reach a plain wide 9 bank 9";
    private static final String TWO = ONE + ";rope k at a pulls 1 bears 9";
    private static final String ALL = TWO + ";hand h strong 1;boat b wide 1 deep 1";
    private static final List<String> SEVEN = List.of("river", "reach", "rope", "loose", "hand", "boat", "mud");
    private static final List<String> OTHERS = List.of("flow", "tape", "wide", "bank", "at", "pulls", "bears",
            "strong", "deep", "plain", "meadow", "cellar", "bridge");

    public static void main(String[] args) {
        newObject();
        feeding();
        wholeTape();
        firstBytes();
        emptyThen();
        fromNowOn();
        nothingOfOthersIsLeft();
        faultOfTheLatest();
        placeOfTheLatest();
        blanks();
        words();
        digits();
        signs();
        riverLine();
        reachLine();
        ropeLine();
        looseLine();
        handLine();
        boatLine();
        mudLine();
        names();
        formFaults();
        nameFaults();
        againFaults();
        boundsFaults();
        manyFaults();
        lacksFaults();
        firstFromTheLeft();
        leastNumberOfOnePlace();
        check.end("TextBoundsTest");
    }

    private static String put(String line, Object sign) {
        return line.replace("#", String.valueOf(sign));
    }

    // ---- Promises 1 to 5

    private static void newObject() {
        check.says("Promise 1", "No RIVER");
        RiverCorset x = new RiverCorset();
        check.due("trouble()", x.trouble(), 0);
        check.due("fault()", x.fault(), 0);
        check.due("where()", x.where(), -1);
        for (int what = 0; what <= 11; what++) {
            check.due("size(" + what + ")", x.size(what), 0);
        }
        check.due("led(0)", Check.hasLed(x, 0), false);
        check.refused(x, "below()", x.below(), 1);
    }

    private static void feeding() {
        check.says("Promise 2", "Twenty bytes come behind THE TAPE, of each number the highest first: how many it has");
        RiverCorset x = new RiverCorset();
        // river flow 9 tape 9; reach a plain wide 9 bank 9
        check.due("feed 1", x.feed(0x72697665, 0x7220666c, 0x6f772039, 0x20746170, 0x6520393b), 20);
        check.due("feed 2", x.feed(0x72656163, 0x68206120, 0x706c6169, 0x6e207769, 0x64652039), 40);
        check.due("feed 3", x.feed(0x2062616e, 0x6b203920, BLANK, BLANK, BLANK), 60);
        check.fine(x, "river(60)", x.river(60), 1);
        // The same ones with their lowest byte first begin with e.
        x.feed(0x65766972, 0x6c662072, 0x3920776f, 0x70617420, 0x3b392065);
        check.refused(x, "lowest first", x.river(20), 4);
        check.due("where()", x.where(), 0);
        x.feed(-1, -1, -1, -1, -1);
        check.refused(x, "bytes of 255", x.river(20), 4);
        check.due("where() of 255", x.where(), 0);
        x.feed(BLANK, BLANK, BLANK, BLANK, 0x202020ff);
        check.refused(x, "the lowest byte of the last number", x.river(20), 4);
        check.due("where() of the last byte", x.where(), 19);
        check.says("Promise 2", "NONE, and none comes, if there would be more than 900");
        for (int i = 1; i <= 45; i++) {
            check.due("feed " + i, x.feed(BLANK, BLANK, BLANK, BLANK, BLANK), 20 * i);
            check.due("size(11)", x.size(11), 20 * i);
        }
        for (int i = 0; i < 3; i++) {
            check.due("feed more", x.feed(-1, -1, -1, -1, -1), -1);
            check.due("size(11) of 900", x.size(11), 900);
        }
        check.refused(x, "river(900) of blanks", x.river(900), 4);
        check.due("where(): none has come", x.where(), 900);
        check.due("feed behind it", x.feed(BLANK, BLANK, BLANK, BLANK, BLANK), 20);
    }

    /** The last byte of 900 counts, too. */
    private static void wholeTape() {
        check.says("Terms I", "THE TAPE has 900 bytes");
        String text = " ".repeat(900 - ONE.length()) + ONE;
        RiverCorset x = new RiverCorset();
        Check.feed(x, text + "9");
        check.due("size(11)", x.size(11), 900);
        check.fine(x, "river(900)", x.river(900), 1);
        check.fine(x, "bank, by the last byte", x.reach(0, 2), 9);
        Check.feed(x, text);
        check.refused(x, "river(899)", x.river(899), 4);
        check.due("where() at 899", x.where(), 899);
    }

    private static void firstBytes() {
        check.says("Promise 3", "The first n bytes of THE TAPE are the RIVER from now on: how many reaches");
        RiverCorset x = new RiverCorset();
        Check.feed(x, ONE + "9;nothing of this");
        check.fine(x, "cut behind 9", x.river(ONE.length()), 1);
        check.fine(x, "bank 9", x.reach(0, 2), 9);
        Check.feed(x, ONE + "9;nothing of this");
        check.fine(x, "cut behind 99", x.river(ONE.length() + 1), 1);
        check.fine(x, "bank 99", x.reach(0, 2), 99);
        Check.feed(x, ONE + "9;nothing of this");
        check.refused(x, "cut behind ;", x.river(ONE.length() + 2), 4);
        check.due("where()", x.where(), ONE.length() + 2);
        for (int reaches = 1; reaches <= 6; reaches++) {
            check.good(reaches, HEAD.substring(0, 22) + Check.many(";reach # plain wide 9 bank 9", reaches));
        }
        check.says("Promise 3", "NONE: 2 (THE TAPE stays)");
        Check.feed(x, ONE);
        for (int n : new int[] {-1, 61, 901, Integer.MIN_VALUE, Integer.MAX_VALUE}) {
            check.refused(x, "river(" + n + ")", x.river(n), 2);
            check.due("size(11)", x.size(11), 60);
        }
        check.fine(x, "river(60), all of it", x.river(60), 1);
        check.refused(x, "river(1) of an empty one", x.river(1), 2);
        check.refused(x, "river(0) of an empty one is no number of 2", x.river(0), 4);
        check.due("where()", x.where(), 0);
        check.due("fault()", x.fault(), 1);
        Check.feed(x, ONE);
        check.refused(x, "river(0) of a full one", x.river(0), 4);
        check.due("where()", x.where(), 0);
    }

    private static void emptyThen() {
        check.says("Promise 3", "(it is empty then)");
        RiverCorset x = new RiverCorset();
        Check.feed(x, ONE + "; behind it");
        x.river(ONE.length());
        check.due("size(11) behind a RIVER", x.size(11), 0);
        Check.feed(x, HEAD + "reach b cellar wide 8 bank 7");
        check.fine(x, "the next RIVER", x.river(51), 1);
        check.fine(x, "its KIND", x.reach(0, 0), 2);
        Check.feed(x, "x" + ONE);
        check.refused(x, "a FAULT", x.river(40), 4);
        check.due("size(11) behind a FAULT", x.size(11), 0);
        Check.feed(x, "");
        Check.feed(x, ONE);
        check.fine(x, "a RIVER behind it", x.river(ONE.length()), 1);
        check.fine(x, "its KIND", x.reach(0, 0), 0);
    }

    private static void fromNowOn() {
        check.says("Promise 3", "(SEED 0, no WEAR; nothing to undo, no MARKS)");
        RiverCorset x = Check.of(TWO);
        x.seed(65536);
        x.year();
        x.year();
        x.mark();
        x.mark();
        x.rain(999);
        check.due("WEAR", x.rope(0, 4), 0);
        check.due("burst", x.rope(0, 3), 2);
        check.due("ACTS", x.size(9), 3);
        check.fine(x, "the same RIVER again", Check.river(x, TWO), 1);
        check.due("SEED", x.size(8), 0);
        check.due("flow", x.size(7), 100);
        check.due("ACTS", x.size(9), 0);
        check.due("MARKS", x.size(10), 0);
        check.fine(x, "LACED as told", x.rope(0, 3), 1);
        check.refused(x, "undo()", x.undo(), 6);
        check.refused(x, "back(0)", x.back(0), 1);
        check.fine(x, "mark()", x.mark(), 0);
        RiverCorset y = Check.of(ONE + ";rope k at a pulls 1 bears 99");
        y.year();
        check.fine(y, "WEAR", y.rope(0, 4), 1);
        Check.river(y, TWO);
        check.fine(y, "no WEAR", y.rope(0, 4), 0);
        Check.river(y, TWO + ";loose k");
        check.fine(y, "loose as told", y.rope(0, 3), 0);
        Check.river(y, ONE);
        check.due("no rope of the RIVER ahead", y.size(3), 0);
        check.refused(y, "rope(0, 0)", y.rope(0, 0), 1);
        Check.river(y, ALL + ";mud a deep 1");
        Check.river(y, ALL);
        check.due("no mud of the RIVER ahead", y.size(6), 0);
        check.fine(y, "judge()", y.judge(), -2);
    }

    /** One object that reads full texts, bare ones, and such as break off, by turns. */
    private static void nothingOfOthersIsLeft() {
        check.says("Promise 3", "The first n bytes of THE TAPE are the RIVER from now on: nothing of others");
        String full = "river flow 900 tape 40" + Check.many(";reach # plain wide 40 bank 99", 6)
                + Check.many(";rope b# at l pulls 1 bears 99", 7) + Check.many(";loose b#", 7) + Check.many(";hand h# strong 99", 6)
                + Check.many(";boat s# wide 30 deep 60", 5) + Check.many(";mud # deep 900", 6);
        int[] sizes = {900, 40, 6, 7, 6, 5, 6, 900};
        int[] bare = {100, 12, 1, 1, 0, 0, 0, 100};
        String[] texts = {full, TWO, TWO, full + ";", TWO, full, full + " ?", full, TWO};
        RiverCorset x = new RiverCorset();
        int[] due = new int[8];
        for (String text : texts) {
            int reaches = Check.river(x, text);
            due = reaches < 0 ? due : text.equals(full) ? sizes : bare;
            check.due("river() of it", reaches, text.equals(full) ? 6 : text.equals(TWO) ? 1 : -1);
            for (int what = 0; what < 8; what++) {
                check.due("size(" + what + ")", x.size(what), due[what]);
            }
            check.fine(x, "the first rope", x.rope(0, 3), due == bare ? 1 : 0);
            check.fine(x, "judge()", x.judge(), due == bare ? -2 : 0);
            check.fine(x, "hands haul", x.hauls(0), due == bare ? -2 : 1);
            check.fine(x, "bestBoat()", x.bestBoat(), due == bare ? -2 : 0);
        }
    }

    private static void faultOfTheLatest() {
        check.says("Promise 4", "The FAULT of the latest river() not refused by 2; 0 without one");
        RiverCorset x = new RiverCorset();
        check.due("fault() of none", x.fault(), 0);
        x.river(1);
        check.due("fault() behind 2", x.fault(), 0);
        Check.river(x, "river flow 0");
        check.due("fault()", x.fault(), 4);
        x.river(1);
        check.due("fault() stays behind 2", x.fault(), 4);
        x.harm();
        x.undo();
        Check.feed(x, "x");
        check.due("fault() stays behind other calls", x.fault(), 4);
        x.river(1);
        check.due("fault() of the next", x.fault(), 1);
        Check.river(x, ONE);
        check.due("fault() of a RIVER", x.fault(), 0);
        x.river(1);
        check.due("fault() of a RIVER behind 2", x.fault(), 0);
    }

    private static void placeOfTheLatest() {
        check.says("Promise 5", "Its place, if the latest call that may be refused was by 4; NONE else");
        RiverCorset x = new RiverCorset();
        check.due("where() of none", x.where(), -1);
        Check.river(x, "river flow 0");
        check.due("where()", x.where(), 11);
        check.due("where() again", x.where(), 11);
        x.river(1);
        check.due("where() behind 2", x.where(), -1);
        Check.river(x, ONE);
        check.due("where() behind a RIVER", x.where(), -1);
        Check.river(x, "  odd");
        check.due("where() of the next", x.where(), 2);
        x.harm();
        check.due("where() behind one not refused", x.where(), -1);
        Check.river(x, " odd");
        check.due("where()", x.where(), 1);
        x.reach(9, 9);
        check.due("where() behind another one refused", x.where(), -1);
    }

    // ---- TOKENS

    private static void blanks() {
        check.says("Terms I", "blanks, 32, part TOKENS and mean nothing else");
        check.good(1, "   " + ONE + "   ");
        check.good(1, ONE.replace(" ", "     ").replace(";", "   ;   "));
        check.good(1, "river flow100tape12;reach a plain wide9bank9");
        check.fault(1, "^ri ver flow 100 tape 12");
        check.fault(1, "^riverflow 100 tape 12");
        check.fault(1, "river flow 10 ^0 tape 12");
        check.fault(1, HEAD + "reach a ^b plain wide 9 bank 9");
        for (int sign : new int[] {0, 9, 10, 13, 31, 33, 160}) {
            check.fault(1, "river^" + (char) sign + "flow 100 tape 12;reach a plain wide 9 bank 9");
        }
    }

    private static void words() {
        check.says("Terms I", "WORDS of 1 to 8 small letters that stand together");
        for (String name : new String[] {"z", "zz", "abcdefg", "abcdefgh", "zzzzzzzz", "ariver", "rivers", "mudd"}) {
            check.good(1, HEAD + "reach " + name + " plain wide 9 bank 9;rope k at " + name + " pulls 1 bears 1");
        }
        check.fault(1, HEAD + "reach ^abcdefghi plain wide 9 bank 9");
        check.fault(1, HEAD + "reach ^" + "a".repeat(200) + " plain wide 9 bank 9");
        check.fault(1, HEAD + "reach ^" + "a".repeat(871));
        check.fault(1, "^riverriver flow 100 tape 12");
        check.fault(1, HEAD + "reach a ^plainplain wide 9 bank 9");
        check.fault(1, ONE + ";rope k at ^aaaaaaaaa pulls 1 bears 1");
        // Eight letters alike but for the first or the last one are two NAMES.
        check.good(3, HEAD + "reach abcdefgh plain wide 9 bank 9;reach abcdefgi plain wide 9 bank 9;"
                + "reach bbcdefgh plain wide 9 bank 9");
        check.good(3, HEAD + "reach a plain wide 9 bank 9;reach aa plain wide 9 bank 9;reach aaaaaaaa plain wide 9 bank 9");
        check.fault(3, HEAD + "reach abcdefgh plain wide 9 bank 9;reach ^abcdefgh");
    }

    private static void digits() {
        check.says("Terms I", "WHOLES of 1 to 3 digits that do");
        for (String whole : new String[] {"9", "09", "009", "10", "010", "900"}) {
            RiverCorset x = new RiverCorset();
            check.fine(x, whole, Check.river(x, "river flow " + whole + " tape 12;reach a plain wide 9 bank 9"), 1);
            check.due("flow " + whole, x.size(0), Integer.parseInt(whole));
        }
        for (String whole : new String[] {"0009", "0000", "1000", "9999", "0".repeat(300) + "9", "4294967305"}) {
            check.fault(1, "river flow ^" + whole + " tape 12;reach a plain wide 9 bank 9");
            check.fault(1, "river flow ^" + whole);
        }
    }

    /** Each of the 256 bytes where a NAME, a WHOLE, a letter of a WORD, or the end of a LINE stands. */
    private static void signs() {
        check.says("Terms I", "TOKENS: WORDS, WHOLES, single ones of ;");
        for (int i = 0; i < 256; i++) {
            char sign = (char) i;
            boolean letter = sign >= 'a' && sign <= 'z';
            boolean digit = sign >= '0' && sign <= '9';
            if (sign != ' ' && sign != '^') {
                signInWords(sign, letter);
                signInWholes(sign, digit);
                signBehindLine(sign, digit);
            }
        }
        check.fault(1, "^;" + ONE);
        check.fault(1, HEAD + "^;reach a plain wide 9 bank 9");
        check.fault(1, ONE + ";^;");
        check.fault(1, ONE + ";");
        check.fault(1, "river^;");
    }

    private static void signInWords(char sign, boolean letter) {
        String line = "reach a" + sign + "c plain wide 9 bank 9";
        if (letter) {
            check.good(1, HEAD + "reach " + sign + " plain wide 9 bank 9");
            check.good(1, HEAD + line);
        } else {
            check.fault(1, HEAD + "reach ^" + sign + " plain wide 9 bank 9");
            check.fault(1, HEAD + line.replace("a" + sign + "c", "a^" + sign + "c"));
        }
    }

    private static void signInWholes(char sign, boolean digit) {
        String rest = " tape 12;reach a plain wide 9 bank 9";
        if (digit) {
            check.good(1, "river flow 1" + sign + "2" + rest);
            if (sign == '0') {
                check.fault(4, "river flow ^0" + rest);
            } else {
                check.good(1, "river flow " + sign + rest);
            }
        } else {
            check.fault(1, "river flow ^" + sign + rest);
            check.fault(1, "river flow 1^" + sign + "2" + rest);
        }
    }

    private static void signBehindLine(char sign, boolean digit) {
        if (digit) {
            check.good(1, ONE + sign);
        } else if (sign == ';') {
            check.fault(1, ONE + sign);
        } else {
            check.fault(1, ONE + "^" + sign);
        }
    }

    // ---- LINES

    /** The text with a WHOLE for its sign #: both bounds are in, both next ones are out, at the WHOLE. */
    private static void bounds(String words, int least, int most, String text) {
        check.says("Terms I", words);
        for (int whole : new int[] {least, least + 1, most - 1, most}) {
            check.good(1, put(text, whole));
            check.good(1, put(text, String.format("%03d", whole)));
        }
        for (int whole : new int[] {0, least - 1, most + 1, 999}) {
            if (whole >= 0 && (whole < least || whole > most)) {
                check.fault(4, put(text, "^" + whole));
                check.fault(4, put(text, "^" + String.format("%03d", whole)));
                check.fault(4, put(text.substring(0, text.indexOf('#') + 1), "^" + whole));
                check.fault(4, put(text.substring(0, text.indexOf('#') + 1), "^" + whole) + " ?");
            }
        }
    }

    private static void riverLine() {
        String text = "river flow # tape 12;reach a plain wide 9 bank 9";
        bounds("river flow WHOLE (1 .. 900)", 1, 900, text);
        check.due("flow 1", Check.of(put(text, 1)).size(0), 1);
        check.due("flow 900", Check.of(put(text, 900)).size(0), 900);
        check.due("the flow NOW 900", Check.of(put(text, 900)).size(7), 900);
        text = "river flow 100 tape #;reach a plain wide 9 bank 9";
        bounds("tape WHOLE (2 .. 40)", 2, 40, text);
        check.due("tape 2", Check.of(put(text, 2)).size(1), 2);
        check.due("tape 40", Check.of(put(text, 40)).size(1), 40);
    }

    private static void reachLine() {
        String text = HEAD + "reach a plain wide # bank 9";
        bounds("reach wide WHOLE (3 .. 40)", 3, 40, text);
        check.due("wide 3", Check.of(put(text, 3)).reach(0, 1), 3);
        check.due("wide 40", Check.of(put(text, 40)).reach(0, 1), 40);
        text = HEAD + "reach a plain wide 9 bank #";
        bounds("reach bank WHOLE (1 .. 99)", 1, 99, text);
        check.due("bank 1", Check.of(put(text, 1)).reach(0, 2), 1);
        check.due("bank 99", Check.of(put(text, 99)).reach(0, 2), 99);
        check.says("Terms I", "KIND: plain, meadow, cellar, or bridge");
        String[] kinds = {"plain", "meadow", "cellar", "bridge"};
        for (int i = 0; i < 4; i++) {
            check.due(kinds[i], Check.of(HEAD + "reach a " + kinds[i] + " wide 9 bank 9").reach(0, 0), i);
        }
        for (String kind : new String[] {"plai", "plains", "lain", "a", "wide", "river", "bridges", "0", ";"}) {
            check.fault(1, HEAD + "reach a ^" + kind + " wide 9 bank 9");
        }
        check.says("Terms I", "up to 6: down the river");
        RiverCorset x = new RiverCorset();
        String six = HEAD + "reach l plain wide 3 bank 9" + ";reach m plain wide 4 bank 9;reach n plain wide 5 bank 9"
                + ";reach o plain wide 6 bank 9;reach p plain wide 7 bank 9;reach q plain wide 8 bank 9";
        check.fine(x, "six reaches", Check.river(x, six), 6);
        for (int r = 0; r < 6; r++) {
            check.fine(x, "width of reach " + r, x.reach(r, 1), 3 + r);
        }
        check.fault(5, six + ";^reach r plain wide 9 bank 9");
        check.fault(5, six + ";^reach");
        check.good(6, six + ";hand h strong 1;rope k at q pulls 1 bears 1;boat b wide 1 deep 1;mud q deep 1;loose k");
    }

    private static void ropeLine() {
        String text = ONE + ";rope k at a pulls # bears 9";
        bounds("rope pulls WHOLE (1 .. 9)", 1, 9, text);
        check.due("pulls 1", Check.of(put(text, 1)).rope(0, 1), 1);
        check.due("pulls 9", Check.of(put(text, 9)).rope(0, 1), 9);
        text = ONE + ";rope k at a pulls 9 bears #";
        bounds("rope bears WHOLE (1 .. 99)", 1, 99, text);
        check.due("bears 1", Check.of(put(text, 1)).rope(0, 2), 1);
        check.due("bears 99", Check.of(put(text, 99)).rope(0, 2), 99);
        check.says("Terms I", "rope (up to 7)");
        String seven = ONE + Check.many(";rope # at a pulls 1 bears 9", 7);
        RiverCorset x = Check.of(seven);
        check.due("seven ropes", x.size(3), 7);
        check.fine(x, "the last one", x.rope(6, 3), 1);
        check.fine(x, "WIDTH", x.reach(0, 3), 2);
        check.fault(5, seven + ";^rope s at a pulls 1 bears 9");
        check.fault(5, seven + ";^rope a");
        check.fault(5, seven + ";^rope");
        check.good(2, seven + ";loose r;reach b plain wide 3 bank 1;hand h strong 1;boat s wide 1 deep 1;mud a deep 1");
        check.says("Terms I", "rope NAME at REACH");
        x = Check.of(HEAD + Check.many("reach # plain wide 9 bank 9;", 6) + "rope a at q pulls 1 bears 1;rope b at l pulls 1 bears 1");
        check.fine(x, "at the last reach", x.rope(0, 0), 5);
        check.fine(x, "at the first reach", x.rope(1, 0), 0);
    }

    private static void looseLine() {
        check.says("Terms I", "or loose ROPE (once for each)");
        String seven = ONE + Check.many(";rope # at a pulls 1 bears 9", 7);
        RiverCorset x = Check.of(seven + Check.many(";loose #", 7));
        for (int k = 0; k < 7; k++) {
            check.fine(x, "rope(" + k + ", 3)", x.rope(k, 3), 0);
        }
        check.fine(x, "WIDTH", x.reach(0, 3), 9);
        x = Check.of(seven + ";loose r;loose l");
        check.fine(x, "the first is loose", x.rope(0, 3), 0);
        check.fine(x, "the second is LACED", x.rope(1, 3), 1);
        check.fine(x, "the last is loose", x.rope(6, 3), 0);
        check.fault(3, seven + Check.many(";loose #", 7) + ";loose ^r");
        check.fault(3, TWO + ";loose k;loose ^k;loose k");
    }

    /** A loose rope that pulls 1 needs as many as the water is deep: the flow by 9, downwards. */
    private static void handLine() {
        String text = ONE + ";hand h strong #";
        bounds("hand strong WHOLE (1 .. 99)", 1, 99, text);
        for (int strong : new int[] {1, 99}) {
            RiverCorset x = Check.of(put(HEAD + "reach a plain wide 3 bank 99;rope k at a pulls 1 bears 9;loose k;hand h strong #", strong));
            x.rain(3 * strong);
            check.fine(x, "so strong is " + strong, x.hauls(0), 1);
            x.rain(3 * strong + 3);
            check.fine(x, "stronger isn't " + strong, x.hauls(0), -2);
        }
        check.says("Terms I", "hand (up to 6)");
        String six = ONE + Check.many(";hand # strong 1", 6);
        check.due("six hands", Check.of(six).size(4), 6);
        check.fault(5, six + ";^hand z strong 1");
        check.fault(5, six + ";^hand");
        check.good(2, six + ";rope k at a pulls 1 bears 1;loose k;reach b plain wide 3 bank 1;boat s wide 1 deep 1;mud a deep 1");
    }

    private static void boatLine() {
        String text = ONE + ";boat b wide # deep 1";
        bounds("boat wide WHOLE (1 .. 30)", 1, 30, text);
        RiverCorset x = Check.of("river flow 100 tape 12;reach a plain wide 30 bank 9;rope k at a pulls 1 bears 9;boat b wide 30 deep 0");
        check.fine(x, "30 by 29", x.passes(0), 0);
        x.ease(0);
        check.fine(x, "30 by 30", x.passes(0), 1);
        text = ONE + ";boat b wide 30 deep #";
        bounds("boat deep WHOLE (0 .. 60)", 0, 60, text);
        x = Check.of("river flow 179 tape 12;reach a plain wide 3 bank 99;boat b wide 1 deep 60;boat c wide 1 deep 0");
        check.fine(x, "60 by 59", x.passes(0), 0);
        x.rain(180);
        check.fine(x, "60 by 60", x.passes(0), 1);
        x.rain(1);
        check.fine(x, "0 by 0", x.passes(1), 1);
        check.says("Terms I", "boat (up to 5)");
        String five = ONE + Check.many(";boat # wide 1 deep 1", 5);
        x = Check.of(five);
        check.due("five boats", x.size(5), 5);
        check.fine(x, "the last one", x.passes(4), 1);
        check.fault(5, five + ";^boat z wide 1 deep 1");
        check.fault(5, five + ";^boat");
        check.good(2, five + ";rope k at a pulls 1 bears 1;loose k;reach b plain wide 3 bank 1;hand s strong 1;mud a deep 1");
    }

    private static void mudLine() {
        String text = ONE + ";mud a deep #";
        bounds("mud deep WHOLE (0 .. 900)", 0, 900, text);
        RiverCorset x = Check.of("river flow 900 tape 2;reach a plain wide 3 bank 9;rope k at a pulls 2 bears 9;mud a deep 900");
        check.fine(x, "900 by 900", x.judge(), -2);
        x.rain(899);
        check.fine(x, "900 by 899", x.judge(), 0);
        x = Check.of("river flow 2 tape 2;reach a plain wide 3 bank 9;mud a deep 0");
        check.fine(x, "0 by 0", x.judge(), -2);
        check.due("mud of 0 is told", x.size(6), 1);
        x.rain(3);
        check.fine(x, "0 by 1", x.judge(), 0);
        check.says("Terms I", "mud REACH (once for each)");
        String six = HEAD + Check.many("reach # plain wide 9 bank 9;", 6);
        check.due("mud of six", Check.of(six + Check.many("mud # deep 1;", 5) + "mud q deep 0").size(6), 6);
        check.fault(3, six + Check.many("mud # deep 1;", 6) + "mud ^q deep 1");
        check.fault(3, ONE + ";mud a deep 0;mud ^a deep 0");
    }

    private static void names() {
        check.says("Terms I", "NAMES are WORDS but river, reach, rope, loose, hand, boat, mud");
        String[] newNames = {"reach # plain wide 9 bank 9", "rope # at a pulls 1 bears 9", "hand # strong 1",
            "boat # wide 1 deep 1"};
        String[] uses = {"rope z at # pulls 1 bears 9", "loose #", "mud # deep 1"};
        for (String word : SEVEN) {
            for (String line : newNames) {
                check.fault(1, ONE + ";" + put(line, "^" + word));
            }
            for (String line : uses) {
                check.fault(1, TWO + ";" + put(line, "^" + word));
            }
        }
        for (String word : OTHERS) {
            check.good(2, ONE + ";" + put(newNames[0], word) + ";mud " + word + " deep 1;rope z at " + word + " pulls 1 bears 1");
            check.good(1, ONE + ";" + put(newNames[1], word) + ";loose " + word);
            check.good(1, ONE + ";" + put(newNames[2], word));
            check.good(1, ONE + ";" + put(newNames[3], word));
        }
        check.says("Terms I", "each told once");
        for (String first : newNames) {
            for (String second : newNames) {
                check.fault(3, ONE + ";" + put(first, "z") + ";" + put(second, "^z"));
                check.fault(3, ONE + ";" + put(first, "abcdefgh") + ";" + put(second, "^abcdefgh"));
            }
        }
        check.says("Terms I", "ahead of its use");
        check.fault(2, HEAD + "rope k at ^a pulls 1 bears 9;reach a plain wide 9 bank 9");
        check.fault(2, ONE + ";loose ^k;rope k at a pulls 1 bears 9");
        check.fault(2, HEAD + "mud ^a deep 1;reach a plain wide 9 bank 9");
        check.fault(2, ONE + ";rope k at ^k pulls 1 bears 9");
    }

    // ---- FAULTS

    private static void formFaults() {
        check.says("Terms I", "1 FORM: the first byte that begins no TOKEN");
        check.fault(1, ONE + ";mud a^-deep 1");
        check.fault(1, ONE + ";mud a deep ^-1");
        check.fault(1, ONE + "^.");
        check.fault(1, "^" + (char) 0 + ONE);
        check.says("Terms I", "or TOKEN with which no RIVER goes on (the end: its place)");
        String[] lines = {"river flow 9 tape 9", "reach z plain wide 9 bank 9", "rope z at a pulls 1 bears 9",
            "loose k", "hand z strong 1", "boat z wide 1 deep 1", "mud a deep 1"};
        for (String line : lines) {
            String text = line.startsWith("river") ? "" : TWO + ";";
            for (int blank = line.indexOf(' '); blank >= 0; blank = line.indexOf(' ', blank + 1)) {
                String begun = text + line.substring(0, blank);
                check.fault(1, begun);
                check.fault(1, begun + "   ");
                check.fault(1, begun + " ^;");
                check.fault(1, begun + " ^?");
            }
            check.fault(1, text + line + " ^more");
            check.fault(1, text + line + " ^1");
        }
    }

    private static void nameFaults() {
        check.says("Terms I", "2 a NAME that isn't told");
        check.fault(2, ALL + ";rope z at ^none pulls 1 bears 9");
        check.fault(2, ALL + ";loose ^none");
        check.fault(2, ALL + ";mud ^none deep 1");
        check.fault(2, ALL + ";mud ^aa deep 1");
        check.fault(2, ALL + ";loose ^z");
        check.says("Terms I", "or is of another sort than must stand there; at it");
        for (String other : new String[] {"k", "h", "b"}) {
            check.fault(2, ALL + ";rope z at ^" + other + " pulls 1 bears 9");
            check.fault(2, ALL + ";mud ^" + other + " deep 1");
        }
        for (String other : new String[] {"a", "h", "b"}) {
            check.fault(2, ALL + ";loose ^" + other);
        }
        check.fault(2, ALL + ";rope z at ^z pulls 1 bears 9");
    }

    private static void againFaults() {
        check.says("Terms I", "3 a NAME told again; at it");
        check.fault(3, ALL + ";reach ^a");
        check.fault(3, ALL + ";rope ^k at zz");
        check.fault(3, ALL + ";hand ^h strong 0");
        check.fault(3, ALL + ";boat ^b");
        check.says("Terms I", "a ROPE that is loose, a REACH whose mud is told already; at it");
        check.fault(3, ALL + ";loose k;loose ^k");
        check.fault(3, ALL + ";mud a deep 900;mud ^a deep 901");
        check.good(2, ALL + ";loose k;mud a deep 1;reach z plain wide 9 bank 9;rope y at z pulls 1 bears 1;loose y;mud z deep 1");
        check.says("Terms I", "a second river: at that WORD");
        check.fault(3, HEAD + "^river flow 100 tape 12");
        check.fault(3, ALL + ";  ^river flow 0");
        check.fault(3, ALL + ";^river");
    }

    private static void boundsFaults() {
        check.says("Terms I", "4 a WHOLE out of bounds; at it");
        check.fault(4, ONE + ";boat b wide   ^31   deep 61");
        check.fault(4, ONE + ";boat b wide 30 deep ^61");
        check.fault(4, ONE + ";rope k at a pulls^0bears 0");
        check.fault(4, "river flow ^000 tape 000");
    }

    private static void manyFaults() {
        check.says("Terms I", "5 MANY: a LINE more of its sort than there is room for, at its first WORD");
        String full = HEAD + Check.many("reach # plain wide 40 bank 99;", 6) + Check.many("rope b# at l pulls 9 bears 99;", 7)
                + Check.many("hand h# strong 99;", 6) + Check.many("boat s# wide 30 deep 60;", 4) + "boat z wide 1 deep 0";
        check.good(6, full);
        check.fault(5, full + ";^reach z");
        check.fault(5, full + ";  ^rope z");
        check.fault(5, full + ";^hand z");
        check.fault(5, full + ";^boat z");
        check.fault(3, full + ";^river");
        check.good(6, full + ";loose bl;mud q deep 0");
    }

    private static void lacksFaults() {
        check.says("Terms I", "6 LACKS: any LINE ahead of the river; at its WORD");
        for (String word : SEVEN.subList(1, 7)) {
            check.fault(6, "^" + word);
            check.fault(6, "   ^" + word + " a;" + HEAD + "reach a plain wide 9 bank 9");
            check.fault(6, "^" + word + " ?");
        }
        check.says("Terms I", "at the end: no reach");
        check.fault(6, "river flow 100 tape 12");
        check.fault(6, "river flow 100 tape 12  ");
        check.fault(6, HEAD + "hand h strong 1");
        check.fault(6, HEAD + "hand h strong 1;boat b wide 1 deep 1   ");
        check.good(1, HEAD + "hand h strong 1;boat b wide 1 deep 1;reach a plain wide 9 bank 9");
    }

    private static void firstFromTheLeft() {
        check.says("Terms I", "FAULTS, the first that is met from the left");
        String text = ALL + Check.many(";boat c# wide 1 deep 1", 4) + ";";
        String[] faulty = {"mud a ^deap 1", "mud ^none deep 1", "hand ^h strong 1", "hand z strong ^100", "^boat z wide 1 deep 1"};
        for (int i = 0; i < 5; i++) {
            for (int j = 0; j < 5; j++) {
                check.fault(i + 1, text + faulty[i] + ";" + faulty[j].replace("^", ""));
            }
            check.fault(i + 1, text + faulty[i] + "; ?");
            check.fault(i + 1, text + faulty[i] + ";");
            check.fault(1, text + "mud a ^; " + faulty[i].replace("^", ""));
            check.fault(6, "^mud a deep 1;" + faulty[i].replace("^", ""));
        }
    }

    private static void leastNumberOfOnePlace() {
        check.says("Terms I", "of one place the least number");
        check.fault(1, "");
        check.fault(1, "    ");
        check.fault(1, "river");
        check.fault(1, "river flow 100 tape");
        check.fault(1, HEAD);
        check.fault(1, HEAD + "reach a plain wide 9 bank");
        check.fault(1, HEAD + "hand h strong 1;");
    }
}
