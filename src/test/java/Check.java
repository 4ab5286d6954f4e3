import java.util.LinkedHashMap;
import java.util.Map;

/** What the tests share: counting wrong answers, by sentences too, and feeding a text to an object. */
final class Check {
    private static final int TROUBLED = -1;
    private int wrong = 0;
    private int asked = 0;
    /** How many answers were looked at for each sentence. */
    private final Map<String, Integer> sentences = new LinkedHashMap<>();
    private String sentence = "";

    /** The answers that follow hold against this sentence of the document, told in its words. */
    void says(String place, String words) {
        sentence = place + ": " + words;
        sentences.putIfAbsent(sentence, 0);
    }

    private void count() {
        asked++;
        sentences.computeIfPresent(sentence, (words, answers) -> answers + 1);
    }

    /** An answer that is due of a call that was not refused, or of which no number is told. */
    void due(String call, long got, long want) {
        count();
        if (got != want) {
            wrong++;
            tell(call + " answered " + got + ", due is " + want);
        }
    }

    private void tell(String fault) {
        System.out.println(sentence.isEmpty() ? fault : "[" + sentence + "] " + fault);
    }

    /** Two texts of answers that must be the same; the first line that isn't is told. */
    void same(String what, String got, String want) {
        count();
        if (!got.equals(want)) {
            wrong++;
            String[] gots = got.split("\n");
            String[] wants = want.split("\n");
            for (int i = 0; i < Math.min(gots.length, wants.length); i++) {
                if (!gots[i].equals(wants[i])) {
                    tell(what + ": " + gots[i] + ", due is " + wants[i]);
                    return;
                }
            }
            tell(what + ": " + gots.length + " answers, due are " + wants.length);
        }
    }

    void due(String call, boolean got, boolean want) {
        due(call, got ? 1 : 0, want ? 1 : 0);
    }

    /** A call that was not refused: its answer, and TROUBLE 0. */
    void fine(RiverCorset x, String call, long got, long want) {
        due(call, got, want);
        due("trouble() behind " + call, x.trouble(), 0);
    }

    void fine(RiverCorset x, String call, boolean got) {
        fine(x, call, got ? 1 : 0, 1);
    }

    /** A call that was refused: NONE, and its number. */
    void refused(RiverCorset x, String call, long got, int number) {
        due(call, got, TROUBLED);
        due("trouble() behind " + call, x.trouble(), number);
    }

    void refused(RiverCorset x, String call, boolean got, int number) {
        due(call, got, false);
        due("trouble() behind " + call, x.trouble(), number);
    }

    /** The text is refused by a FAULT at the sign ^ (which is left out), or else at its end. */
    void fault(int number, String marked) {
        int place = marked.indexOf('^');
        String text = place < 0 ? marked : marked.substring(0, place) + marked.substring(place + 1);
        RiverCorset x = new RiverCorset();
        refused(x, text, river(x, text), 4);
        due("fault() of " + text, x.fault(), number);
        due("where() of " + text, x.where(), place < 0 ? text.length() : place);
        due("size(2) of " + text, x.size(2), 0);
        due("size(11) of " + text, x.size(11), 0);
    }

    void good(int reaches, String text) {
        RiverCorset x = new RiverCorset();
        fine(x, text, river(x, text), reaches);
        due("fault() of " + text, x.fault(), 0);
        due("where() of " + text, x.where(), -1);
        due("size(2) of " + text, x.size(2), reaches);
        due("size(11) of " + text, x.size(11), 0);
    }

    /** The LINE so many times, with letters from l on for its sign #. */
    static String many(String line, int times) {
        StringBuilder lines = new StringBuilder();
        for (int i = 0; i < times; i++) {
            lines.append(line.replace('#', (char) ('l' + i)));
        }
        return lines.toString();
    }

    static boolean hasLed(RiverCorset x, int i) {
        try {
            x.led(i);
            return true;
        } catch (java.util.NoSuchElementException none) {
            return false;
        }
    }

    /** Feeds a text, blanks behind it, signs by their numbers 0 to 255. */
    static void feed(RiverCorset x, String text) {
        for (int from = 0; from < text.length(); from += 20) {
            int[] five = new int[5];
            for (int i = 0; i < 20; i++) {
                int sign = from + i < text.length() ? text.charAt(from + i) : ' ';
                five[i / 4] = five[i / 4] << 8 | sign & 255;
            }
            x.feed(five[0], five[1], five[2], five[3], five[4]);
        }
    }

    static int river(RiverCorset x, String text) {
        feed(x, text);
        return x.river(text.length());
    }

    static RiverCorset of(String text) {
        RiverCorset x = new RiverCorset();
        if (river(x, text) < 1) {
            throw new IllegalStateException("fault " + x.fault() + " at " + x.where() + " of " + text);
        }
        return x;
    }

    void end(String name) {
        String of = sentences.isEmpty() ? "" : " of " + sentences.size() + " sentences";
        System.out.println(name + ": " + asked + " answers" + of + " looked at, " + wrong + " wrong");
        sentences.forEach((words, answers) -> {
            if (answers == 0) {
                System.out.println("[" + words + "] has no answer");
            }
        });
        if (wrong != 0 || asked == 0 || sentences.containsValue(0)) {
            System.exit(1);
        }
    }
}
