/** What the tests share: counting wrong answers, and feeding a text to an object. */
final class Check {
    private static final int TROUBLED = -1;
    private int wrong = 0;
    private int asked = 0;

    /** An answer that is due of a call that was not refused, or of which no number is told. */
    void due(String call, long got, long want) {
        asked++;
        if (got != want) {
            wrong++;
            System.out.println(call + " answered " + got + ", due is " + want);
        }
    }

    void due(String call, boolean got, boolean want) {
        due(call, got ? 1 : 0, want ? 1 : 0);
    }

    /** A call that was not refused: its answer, and TROUBLE 0. */
    void fine(RiverCorset x, String call, long got, long want) {
        due(call, got, want);
        due("trouble() behind " + call, x.trouble(), 0);
    }

    void fine(RiverCorset x, String call, boolean got) {
        fine(x, call, got ? 1 : 0, 1);
    }

    /** A call that was refused: NONE, and its number. */
    void refused(RiverCorset x, String call, long got, int number) {
        due(call, got, TROUBLED);
        due("trouble() behind " + call, x.trouble(), number);
    }

    void refused(RiverCorset x, String call, boolean got, int number) {
        due(call, got, false);
        due("trouble() behind " + call, x.trouble(), number);
    }

    static boolean hasLed(RiverCorset x, int i) {
        try {
            x.led(i);
            return true;
        } catch (java.util.NoSuchElementException none) {
            return false;
        }
    }

    /** Feeds a text, blanks behind it, signs by their numbers 0 to 255. */
    static void feed(RiverCorset x, String text) {
        for (int from = 0; from < text.length(); from += 20) {
            int[] five = new int[5];
            for (int i = 0; i < 20; i++) {
                int sign = from + i < text.length() ? text.charAt(from + i) : ' ';
                five[i / 4] = five[i / 4] << 8 | sign & 255;
            }
            x.feed(five[0], five[1], five[2], five[3], five[4]);
        }
    }

    static int river(RiverCorset x, String text) {
        feed(x, text);
        return x.river(text.length());
    }

    static RiverCorset of(String text) {
        RiverCorset x = new RiverCorset();
        if (river(x, text) < 1) {
            throw new IllegalStateException("fault " + x.fault() + " at " + x.where() + " of " + text);
        }
        return x;
    }

    void end(String name) {
        System.out.println(name + ": " + asked + " answers looked at, " + wrong + " wrong");
        if (wrong != 0 || asked == 0) {
            System.exit(1);
        }
    }
}
