import java.util.Random;

/** Runs of calls by draws, each answer held against the oracle's, TROUBLE and place too. */
public final class RandomRunsTest {
    private static final Check check = new Check();
    private static final int RUNS = 6000;
    /** Nothing is promised behind the 512th call; a text takes 45 of feed and five more. */
    private static final int MOST_CALLS = 512 - 50;
    private static final String[] NO_NUMBER = {"fault", "where", "trouble", "undo", "below", "harm", "spills",
        "outOfLaw", "narrowest", "worn", "spilt", "safeFlow", "lacing", "length", "lengthSum", "lacings",
        "bestChange", "changeHarm", "bestBoat", "fits", "could", "surely", "ask", "askLeaves", "judge", "rests",
        "rest", "year", "year", "year", "mark"};
    private static final String[] SMALL = {"led", "size", "burstsAt", "spillsAt", "passes", "stuck", "letThrough",
        "needs", "hauls", "lace", "lace", "ease", "ease", "mend", "mend", "back", "reach", "reach", "rope", "rope",
        "parish"};
    private static final String[] LARGE = {"depthBy", "harmBy", "bursts", "rain", "rain", "seed"};
    private static final String[] SEEDED = {"century", "burstBy", "firstFlood", "yearOf"};
    private static final String[] WORDS = {"river", "reach", "rope", "loose", "hand", "boat", "mud", "flow", "tape",
        "wide", "bank", "at", "pulls", "bears", "strong", "deep", "plain", "meadow", "cellar", "bridge", ";", "0",
        "901", "41", "1000", "a", "q", "abcdefghi", "abcdefgh", "A", "", "-", " "};

    private final Random draws;
    private final RiverCorset x = new RiverCorset();
    private final Oracle oracle = new Oracle();
    private int calls = 0;

    private RandomRunsTest(long seed) {
        draws = new Random(seed);
    }

    public static void main(String[] args) {
        for (int run = 0; run < RUNS; run++) {
            new RandomRunsTest(run).run(run);
        }
        check.end("RandomRunsTest");
    }

    private void run(int run) {
        int texts = run % 4 == 0 ? 25 : 1 + draws.nextInt(3);
        for (int i = 0; i < texts && calls < MOST_CALLS; i++) {
            tell(run);
            int questions = run % 4 == 0 ? draws.nextInt(4) : draws.nextInt(120);
            for (int j = 0; j < questions && calls < MOST_CALLS; j++) {
                ask(run);
            }
        }
    }

    private int one(int least, int most) {
        return least + draws.nextInt(most - least + 1);
    }

    /** One of -1 to a few, or now and then a number far out. */
    private int few(int most) {
        return draws.nextInt(30) == 0 ? draws.nextInt() : one(-1, most);
    }

    private void tell(int run) {
        String text = text();
        if (draws.nextInt(3) == 0 || run % 4 == 0) {
            text = spoil(text);
        }
        text = text.substring(0, Math.min(880, text.length()));
        for (int from = 0; from < text.length(); from += 20) {
            int[] five = new int[5];
            for (int i = 0; i < 20; i++) {
                int sign = from + i < text.length() ? text.charAt(from + i) : draws.nextInt(256);
                five[i / 4] = five[i / 4] << 8 | sign & 255;
            }
            calls++;
            check.due("run " + run + " feed", x.feed(five[0], five[1], five[2], five[3], five[4]), oracle.feed(five));
        }
        int n = draws.nextInt(20) == 0 ? few(920) : text.length();
        compare(run, "river", n, 0, false);
        calls += 2;
        check.due("run " + run + " fault of " + text, x.fault(), oracle.fault);
        check.due("run " + run + " where of " + text, x.where(), oracle.where());
    }

    /** A text that is a RIVER, its LINES in some order in which NAMES are told ahead. */
    private String text() {
        int flow = one(1, draws.nextBoolean() ? 900 : 150);
        StringBuilder text = new StringBuilder("river flow " + flow + " tape " + one(2, 40));
        int reaches = 0;
        int ropes = 0;
        int hands = 0;
        int boats = 0;
        int loose = 0;
        int muds = 0;
        int lines = one(1, 30);
        int mostWide = draws.nextBoolean() ? 40 : 12;
        for (int i = 0; i < lines || reaches == 0; i++) {
            int sort = reaches == 0 ? 0 : draws.nextInt(8);
            if (sort <= 1 && reaches < 6) {
                text.append(";reach r").append((char) ('a' + reaches++)).append(' ')
                    .append(new String[] {"plain", "meadow", "cellar", "bridge"}[draws.nextInt(4)])
                    .append(" wide ").append(one(3, mostWide)).append(" bank ").append(one(1, draws.nextBoolean() ? 99 : 20));
            } else if (sort <= 3 && ropes < 7) {
                text.append(";rope p").append((char) ('a' + ropes++)).append(" at r")
                    .append((char) ('a' + draws.nextInt(reaches))).append(" pulls ").append(one(1, 9))
                    .append(" bears ").append(one(1, draws.nextBoolean() ? 99 : 20));
            } else if (sort == 4 && hands < 6) {
                text.append(";hand h").append((char) ('a' + hands++)).append(" strong ").append(one(1, 99));
            } else if (sort == 5 && boats < 5) {
                text.append(";boat b").append((char) ('a' + boats++)).append(" wide ").append(one(1, draws.nextBoolean() ? 30 : 6))
                    .append(" deep ").append(one(0, draws.nextBoolean() ? 60 : 6));
            } else if (sort == 6 && loose < ropes) {
                text.append(";loose p").append((char) ('a' + loose++));
            } else if (sort == 7 && muds < reaches && draws.nextInt(3) == 0) {
                text.append(";mud r").append((char) ('a' + muds++)).append(" deep ").append(one(0, draws.nextBoolean() ? 15 : 60));
            }
        }
        return draws.nextInt(4) == 0 ? text.toString().replace(";", " ; ").replace("wide ", "wide") : text.toString();
    }

    private String spoil(String text) {
        int at = draws.nextInt(text.length() + 1);
        String word = WORDS[draws.nextInt(WORDS.length)];
        switch (draws.nextInt(5)) {
            case 0: return text.substring(0, at);
            case 1: return text.substring(0, at) + (char) draws.nextInt(256) + text.substring(at);
            case 2: return text + ";" + word + " " + WORDS[draws.nextInt(WORDS.length)];
            default:
                String[] tokens = text.replace(";", " ; ").split(" +");
                int i = draws.nextInt(tokens.length);
                tokens[i] = draws.nextBoolean() ? word : tokens[draws.nextInt(tokens.length)];
                return String.join(" ", tokens);
        }
    }

    private void ask(int run) {
        switch (draws.nextInt(8)) {
            case 0: case 1: case 2:
                compare(run, NO_NUMBER[draws.nextInt(NO_NUMBER.length)], 0, 0, false);
                break;
            case 3: case 4: case 5:
                compare(run, SMALL[draws.nextInt(SMALL.length)], few(7), few(12), draws.nextBoolean());
                break;
            case 6:
                String name = LARGE[draws.nextInt(LARGE.length)];
                int flow = draws.nextInt(10) == 0 ? new int[] {0, 1, 999, 1000, Integer.MIN_VALUE}[draws.nextInt(5)] : one(1, 400);
                compare(run, name, name.equals("depthBy") ? few(6) : name.equals("seed") ? seed() : flow, flow, false);
                break;
            default:
                String seeded = SEEDED[draws.nextInt(SEEDED.length)];
                boolean rope = seeded.equals("yearOf");
                compare(run, seeded, rope ? few(7) : seed(), rope ? seed() : few(61), false);
        }
    }

    private int seed() {
        return draws.nextInt(10) == 0 ? new int[] {-1, 0, 65536, 65537, Integer.MAX_VALUE}[draws.nextInt(5)] : one(0, 65536);
    }

    private void compare(int run, String name, int a, int b, boolean c) {
        calls += 2;
        String call = "run " + run + " " + name + "(" + a + ", " + b + ", " + c + ")";
        check.due(call, real(name, a, b, c), oracle.call(name, a, b, c));
        check.due("trouble() behind " + call, x.trouble(), oracle.trouble);
    }

    private int led(int i) {
        try {
            return x.led(i);
        } catch (java.util.NoSuchElementException none) {
            return -7;
        }
    }

    private int real(String name, int a, int b, boolean c) {
        switch (name) {
            case "led": return led(a);
            case "parish": return x.parish(a, b, c);
            case "mend": return x.mend(a) ? 1 : 0;
            case "rain": return x.rain(a) ? 1 : 0;
            case "seed": return x.seed(a) ? 1 : 0;
            case "undo": return x.undo() ? 1 : 0;
            case "back": return x.back(a) ? 1 : 0;
            default: return byReflection(name, a, b);
        }
    }

    private int byReflection(String name, int a, int b) {
        try {
            for (java.lang.reflect.Method method : RiverCorset.class.getMethods()) {
                if (method.getName().equals(name)) {
                    int n = method.getParameterCount();
                    return (int) (n == 0 ? method.invoke(x) : n == 1 ? method.invoke(x, a) : method.invoke(x, a, b));
                }
            }
        } catch (ReflectiveOperationException wrong) {
            throw new IllegalStateException(name, wrong);
        }
        throw new IllegalStateException(name);
    }
}
