import java.util.ArrayList;
import java.util.HashMap;
import java.util.List;
import java.util.Map;
import java.util.TreeMap;
import java.util.function.IntPredicate;
import java.util.function.IntUnaryOperator;
import java.util.regex.Matcher;
import java.util.regex.Pattern;

/** The document said once more, plainly and slowly, to hold the class against. */
final class Oracle {
    private static final String[][] LINES = {
        {"river", "flow", "1-900", "tape", "2-40"},
        {"reach", "+", "kind", "wide", "3-40", "bank", "1-99"},
        {"rope", "+", "at", "=reach", "pulls", "1-9", "bears", "1-99"},
        {"loose", "=rope"},
        {"hand", "+", "strong", "1-99"},
        {"boat", "+", "wide", "1-30", "deep", "0-60"},
        {"mud", "=reach", "deep", "0-900"}};
    private static final List<String> KINDS = List.of("plain", "meadow", "cellar", "bridge");
    private static final Map<String, Integer> ROOM = Map.of("reach", 6, "rope", 7, "hand", 6, "boat", 5);

    /** A LINE of each sort as the numbers it told: NAMES by their numbers, KINDS likewise. */
    private Map<String, List<int[]>> told = new HashMap<>();
    private String tape = "";
    int fault = 0;
    private int place = -1;
    int trouble = 0;

    private static final class Now {
        char[] rope = new char[0];
        int[] wear = new int[0];
        int flow;
        int seed;

        Now copy() {
            Now copy = new Now();
            copy.rope = rope.clone();
            copy.wear = wear.clone();
            copy.flow = flow;
            copy.seed = seed;
            return copy;
        }
    }

    private Now now = new Now();
    private final List<Now> past = new ArrayList<>();
    private final List<Now> marks = new ArrayList<>();

    // ---- the text

    int feed(int[] five) {
        if (tape.length() + 20 > 900) {
            return -1;
        }
        for (int number : five) {
            for (int shift : new int[] {24, 16, 8, 0}) {
                tape += (char) (number >>> shift & 255);
            }
        }
        return tape.length();
    }

    int river(int n) {
        if (n < 0 || n > tape.length()) {
            return no(2);
        }
        String text = tape.substring(0, n);
        tape = "";
        Map<String, List<int[]>> lines = new HashMap<>();
        fault = parse(text, lines);
        if (fault != 0) {
            return no(4);
        }
        told = lines;
        now = new Now();
        now.rope = "L".repeat(all("rope").size()).toCharArray();
        now.wear = new int[now.rope.length];
        all("loose").forEach(line -> now.rope[line[0]] = 'o');
        now.flow = all("river").get(0)[0];
        past.clear();
        marks.clear();
        return yes(reaches());
    }

    int where() {
        return trouble == 4 ? place : -1;
    }

    private int parse(String text, Map<String, List<int[]>> lines) {
        Map<String, String> names = new HashMap<>();
        Map<String, Integer> numbers = new HashMap<>();
        String[] pattern = null;
        int slot = 0;
        int[] values = null;
        int at = 0;
        Pattern token = Pattern.compile("[a-z]+|[0-9]+|;");
        while (true) {
            while (at < text.length() && text.charAt(at) == ' ') {
                at++;
            }
            place = at;
            String word;
            if (at == text.length()) {
                word = "";
            } else {
                Matcher matcher = token.matcher(text).region(at, text.length());
                if (!matcher.lookingAt()) {
                    return 1;
                }
                word = matcher.group();
                if (word.matches("[a-z]{9,}|[0-9]{4,}")) {
                    return 1;
                }
                at += word.length();
            }
            if (pattern == null) {
                for (String[] line : LINES) {
                    if (line[0].equals(word)) {
                        pattern = line;
                    }
                }
                if (pattern == null) {
                    return 1;
                }
                if (word.equals("river") && lines.containsKey("river")) {
                    return 3;
                }
                if (ROOM.containsKey(word) && lines.getOrDefault(word, List.of()).size() == ROOM.get(word)) {
                    return 5;
                }
                if (!word.equals("river") && !lines.containsKey("river")) {
                    return 6;
                }
                slot = 1;
                values = new int[0];
                continue;
            }
            if (slot == pattern.length) {
                lines.computeIfAbsent(pattern[0], key -> new ArrayList<>()).add(values);
                if (word.isEmpty()) {
                    return lines.containsKey("reach") ? 0 : 6;
                }
                if (!word.equals(";")) {
                    return 1;
                }
                pattern = null;
                continue;
            }
            String want = pattern[slot++];
            int value;
            boolean isName = word.matches("[a-z]+")
                    && !List.of("river", "reach", "rope", "loose", "hand", "boat", "mud").contains(word);
            if (want.equals("+")) {
                if (!isName) {
                    return 1;
                }
                if (names.containsKey(word)) {
                    return 3;
                }
                names.put(word, pattern[0]);
                numbers.put(word, lines.getOrDefault(pattern[0], List.of()).size());
                continue;
            } else if (want.startsWith("=")) {
                if (!isName) {
                    return 1;
                }
                if (!want.substring(1).equals(names.get(word))) {
                    return 2;
                }
                value = numbers.get(word);
                int number = value;
                if (!pattern[0].equals("rope")
                        && lines.getOrDefault(pattern[0], List.of()).stream().anyMatch(l -> l[0] == number)) {
                    return 3;
                }
            } else if (want.equals("kind")) {
                value = KINDS.indexOf(word);
                if (value < 0) {
                    return 1;
                }
            } else if (want.contains("-")) {
                if (!word.matches("[0-9]+")) {
                    return 1;
                }
                value = Integer.parseInt(word);
                String[] bounds = want.split("-");
                if (value < Integer.parseInt(bounds[0]) || value > Integer.parseInt(bounds[1])) {
                    return 4;
                }
            } else {
                if (!want.equals(word)) {
                    return 1;
                }
                continue;
            }
            int[] longer = java.util.Arrays.copyOf(values, values.length + 1);
            longer[values.length] = value;
            values = longer;
        }
    }

    // ---- the water

    private List<int[]> all(String sort) {
        return told.getOrDefault(sort, List.of());
    }

    private int reaches() {
        return all("reach").size();
    }

    private int ropes() {
        return all("rope").size();
    }

    private static final class Look {
        int[] width;
        int[] water;
        int[] depth;
        int[] spill;
        int[] harm;
        int below;

        int allHarm() {
            int sum = 0;
            for (int one : harm) {
                sum += one;
            }
            return sum;
        }

        boolean floods() {
            for (int one : spill) {
                if (one > 0) {
                    return true;
                }
            }
            return false;
        }
    }

    private Look look(IntPredicate laced, int flow, int first, int last) {
        Look look = new Look();
        int n = reaches();
        look.width = new int[n];
        look.water = new int[n];
        look.depth = new int[n];
        look.spill = new int[n];
        look.harm = new int[n];
        long water = flow;
        for (int r = 0; r < n; r++) {
            int[] reach = all("reach").get(r);
            int width = reach[1];
            for (int k = 0; k < ropes(); k++) {
                int[] rope = all("rope").get(k);
                if (laced.test(k) && rope[0] == r) {
                    width -= rope[1];
                }
            }
            width -= r == 0 ? first : 0;
            width -= r == n - 1 ? last : 0;
            if (width < 1) {
                width = 1;
            }
            look.width[r] = width;
            look.water[r] = (int) water;
            look.depth[r] = (int) water / width;
            if (look.depth[r] > reach[2]) {
                int spill = (look.depth[r] - reach[2]) * width;
                look.spill[r] = spill;
                String kind = KINDS.get(reach[0]);
                water -= kind.equals("meadow") ? spill - spill / 2 : spill;
                look.harm[r] = kind.equals("plain") ? spill : kind.equals("meadow") ? 0
                        : kind.equals("cellar") ? 2 * spill : spill + 20;
            }
        }
        look.below = (int) water;
        return look;
    }

    private Look look(int flow) {
        return look(k -> now.rope[k] == 'L', flow, 0, 0);
    }

    private Look lookSet(int set) {
        return look(k -> (set >> k & 1) == 1, now.flow, 0, 0);
    }

    private int lacedBits() {
        return bits(ropes(), k -> now.rope[k] == 'L');
    }

    private static int bits(int n, IntPredicate test) {
        int bits = 0;
        for (int i = 0; i < n; i++) {
            bits |= test.test(i) ? 1 << i : 0;
        }
        return bits;
    }

    private boolean breaks(int k, Look look, Now state) {
        int[] rope = all("rope").get(k);
        return look.depth[rope[0]] > rope[2] - state.wear[k];
    }

    private static int first(int n, IntPredicate test) {
        for (int i = 0; i < n; i++) {
            if (test.test(i)) {
                return i;
            }
        }
        return -2;
    }

    /** The first of those that count at which a measure is least. */
    private static int least(int n, IntPredicate counts, IntUnaryOperator measure) {
        int best = -2;
        for (int i = 0; i < n; i++) {
            if (counts.test(i) && (best < 0 || measure.applyAsInt(i) < measure.applyAsInt(best))) {
                best = i;
            }
        }
        return best;
    }

    private int no(int number) {
        trouble = number;
        return -1;
    }

    private int yes(int answer) {
        trouble = 0;
        return answer;
    }

    private boolean isRope(int k) {
        return 0 <= k && k < ropes();
    }

    private static boolean isFlow(int flow) {
        return 1 <= flow && flow <= 999;
    }

    // ---- the calls, by their names (those without a RIVER are refused ahead of this)

    int call(String name, int a, int b, boolean c) {
        switch (name) {
            case "fault": return fault;
            case "where": return where();
            case "trouble": return trouble;
            case "river": return river(a);
            case "size": return size(a);
            case "led": return led(a);
            case "undo": return undo();
            case "back": return back(a);
            case "reach": case "spillsAt": case "depthBy": return ofReach(name, a, b);
            case "rope": case "burstsAt": case "needs": case "hauls": case "yearOf": case "lace": case "ease":
            case "mend": return isRope(a) ? ofRope(name, a, b) : no(1) + (name.equals("mend") ? 1 : 0);
            case "passes": case "stuck": case "letThrough": return ofBoat(name, a);
            case "parish": case "rests": case "rest": return ofParishes(name, a, b, c);
            case "rain": case "seed": return rainOrSeed(name, a);
            default: return reaches() == 0 ? no(1) : ofAll(name, a, b);
        }
    }

    private int size(int what) {
        int[] sizes = {reaches() == 0 ? 0 : all("river").get(0)[0], reaches() == 0 ? 0 : all("river").get(0)[1],
            reaches(), ropes(), all("hand").size(), all("boat").size(), all("mud").size(), now.flow, now.seed,
            past.size(), marks.size(), tape.length()};
        return what < 0 || what >= sizes.length ? -1 : sizes[what];
    }

    /** -7 stands for the exception. */
    private int led(int i) {
        List<Integer> laced = new ArrayList<>();
        for (int k = 0; k < ropes(); k++) {
            if (now.rope[k] == 'L') {
                laced.add(k);
            }
        }
        return i < 0 || i >= laced.size() ? -7 : laced.get(i);
    }

    private void act() {
        past.add(now.copy());
        if (past.size() > 16) {
            past.remove(0);
        }
    }

    private int undo() {
        if (past.isEmpty()) {
            return no(6) + 1;
        }
        now = past.remove(past.size() - 1);
        return yes(1);
    }

    private int back(int mark) {
        if (mark < 0 || mark >= marks.size()) {
            return no(1) + 1;
        }
        now = marks.get(mark).copy();
        past.clear();
        return yes(1);
    }

    private int rainOrSeed(String name, int v) {
        if (reaches() == 0) {
            return no(1) + 1;
        }
        if (name.equals("rain")) {
            if (!isFlow(v)) {
                return no(2) + 1;
            }
            act();
            now.flow = v;
        } else {
            if (v < 0 || v > 65536) {
                return no(2) + 1;
            }
            now.seed = v;
        }
        return yes(1);
    }

    private int ofReach(String name, int r, int b) {
        if (r < 0 || r >= reaches()) {
            return no(1);
        }
        int[] reach = all("reach").get(r);
        if (name.equals("spillsAt")) {
            int flow = first(999, f -> look(f + 1).spill[r] > 0);
            return yes(flow < 0 ? -2 : flow + 1);
        }
        if (name.equals("depthBy")) {
            return isFlow(b) ? yes(look(b).depth[r]) : no(2);
        }
        Look look = look(now.flow);
        int[] whats = {reach[0], reach[1], reach[2], look.width[r], look.water[r], look.depth[r], look.spill[r],
            look.harm[r]};
        return b < 0 || b >= whats.length ? no(1) : yes(whats[b]);
    }

    private int ofRope(String name, int k, int b) {
        int[] rope = all("rope").get(k);
        Look look = look(now.flow);
        boolean laced = now.rope[k] == 'L';
        switch (name) {
            case "rope":
                int[] whats = {rope[0], rope[1], rope[2], laced ? 1 : now.rope[k] == 'b' ? 2 : 0, now.wear[k],
                    laced && breaks(k, look, now) ? 1 : 0};
                return b < 0 || b >= whats.length ? no(1) : yes(whats[b]);
            case "burstsAt":
                if (!laced) {
                    return no(5);
                }
                int flow = first(999, f -> breaks(k, look(f + 1), now));
                return yes(flow < 0 ? -2 : flow + 1);
            case "needs":
                return yes(rope[1] * look.depth[rope[0]]);
            case "hauls":
                int need = rope[1] * look.depth[rope[0]];
                int hands = all("hand").size();
                return yes(least(1 << hands, set -> {
                    int sum = 0;
                    for (int h = 0; h < hands; h++) {
                        sum += (set >> h & 1) * all("hand").get(h)[0];
                    }
                    return sum >= need;
                }, Integer::bitCount));
            case "yearOf":
                if (b < 0 || b > 65536) {
                    return no(2);
                }
                return laced ? yes(yearOf(k, b)) : no(5);
            case "mend":
                if (now.rope[k] != 'b') {
                    return no(6) + 1;
                }
                act();
                now.rope[k] = 'o';
                now.wear[k] = 0;
                return yes(1);
            case "lace":
                if (now.rope[k] != 'o') {
                    return no(5);
                }
                act();
                now.rope[k] = 'L';
                return yes(look(now.flow).width[rope[0]]);
            default:
                if (!laced) {
                    return no(5);
                }
                act();
                now.rope[k] = 'o';
                return yes(look(now.flow).width[rope[0]]);
        }
    }

    private boolean passes(int b, int r, Look look) {
        int[] boat = all("boat").get(b);
        return look.width[r] >= boat[0] && look.depth[r] >= boat[1];
    }

    private int ofBoat(String name, int b) {
        if (b < 0 || b >= all("boat").size()) {
            return no(1);
        }
        Look look = look(now.flow);
        if (name.equals("passes")) {
            return yes(bits(reaches(), r -> passes(b, r, look)));
        }
        if (name.equals("stuck")) {
            return yes(first(reaches(), r -> !passes(b, r, look)));
        }
        int laced = lacedBits();
        return yes(least(1 << ropes(), set -> (set & laced) == set
                && first(reaches(), r -> !passes(b, r, lookSet(laced - set))) == -2, Integer::bitCount));
    }

    private int has(int one, int other, boolean ofOther) {
        Look look = look(k -> now.rope[k] == 'L', now.flow, one, other);
        return ofOther ? 3 * other - look.harm[reaches() - 1] : 3 * one - look.harm[0];
    }

    private boolean isRest(int one, int other) {
        for (int p = 0; p <= 5; p++) {
            if (has(p, other, false) > has(one, other, false) || has(one, p, true) > has(one, other, true)) {
                return false;
            }
        }
        return true;
    }

    private int ofParishes(String name, int one, int other, boolean ofOther) {
        boolean pair = name.equals("parish");
        if (reaches() < 2) {
            return pair ? no(1) - 9999 : no(1);
        }
        if (pair) {
            if (one < 0 || one > 5 || other < 0 || other > 5) {
                return no(2) - 9999;
            }
            return yes(has(one, other, ofOther));
        }
        List<Integer> rests = new ArrayList<>();
        for (int i = 0; i < 36; i++) {
            if (isRest(i / 6, i % 6)) {
                rests.add(i / 6 * 10 + i % 6);
            }
        }
        return yes(name.equals("rests") ? rests.size() : rests.isEmpty() ? -2 : rests.get(0));
    }

    // ---- years

    /** HARM done, and as the second one whether it SPILLED. */
    private int[] pass(Now state) {
        state.seed = (int) ((75L * state.seed + 74) % 65537);
        state.flow = Math.max(1, all("river").get(0)[0] + state.seed % 61 - 30);
        Look full = look(k -> state.rope[k] == 'L', state.flow, 0, 0);
        for (int k = 0; k < ropes(); k++) {
            if (state.rope[k] == 'L' && breaks(k, full, state)) {
                state.rope[k] = 'b';
            }
        }
        Look look = look(k -> state.rope[k] == 'L', state.flow, 0, 0);
        for (int k = 0; k < ropes(); k++) {
            state.wear[k] += state.rope[k] == 'L' ? 1 : 0;
        }
        return new int[] {look.allHarm(), look.floods() ? 1 : 0};
    }

    private int yearOf(int k, int seed) {
        Now trial = now.copy();
        trial.seed = seed;
        for (int year = 1; year <= 60; year++) {
            pass(trial);
            if (trial.rope[k] == 'b') {
                return year;
            }
        }
        return 0;
    }

    private int years(String name, int seed, int n) {
        if (seed < 0 || seed > 65536 || n < 0 || n > 60) {
            return no(2);
        }
        Now trial = now.copy();
        trial.seed = seed;
        int harm = 0;
        int flood = 0;
        for (int year = 1; year <= n; year++) {
            int[] done = pass(trial);
            harm += done[0];
            flood = flood == 0 && done[1] == 1 ? year : flood;
        }
        return yes(name.equals("century") ? harm : name.equals("firstFlood") ? flood
                : bits(ropes(), k -> trial.rope[k] == 'b'));
    }

    // ---- of the whole RIVER

    private int ofAll(String name, int a, int b) {
        Look look = look(now.flow);
        int n = reaches();
        int tapeWide = all("river").get(0)[1];
        switch (name) {
            case "below": return yes(look.below);
            case "harm": return yes(look.allHarm());
            case "spills": return yes(bits(n, r -> look.spill[r] > 0));
            case "outOfLaw": return yes(bits(n, r -> look.width[r] > tapeWide));
            case "narrowest": return yes(least(n, r -> true, r -> look.width[r]));
            case "worn": return yes(least(ropes(), k -> now.rope[k] == 'L', k -> all("rope").get(k)[2]
                    - now.wear[k] - look.depth[all("rope").get(k)[0]]));
            case "spilt": return yes(now.flow - look.below);
            case "harmBy": return isFlow(a) ? yes(look(a).allHarm()) : no(2);
            case "bursts": return isFlow(a)
                    ? yes(bits(ropes(), k -> now.rope[k] == 'L' && breaks(k, look(a), now))) : no(2);
            case "safeFlow":
                int greatest = 0;
                for (int flow = 1; flow <= 999; flow++) {
                    greatest = look(flow).floods() ? greatest : flow;
                }
                return yes(greatest);
            case "bestBoat": return yes(least(all("boat").size(), boat -> true,
                    boat -> -Integer.bitCount(bits(n, r -> passes(boat, r, look)))));
            case "bestChange": case "changeHarm": return ofChange(name, look.allHarm());
            case "judge": return yes(first(n, r -> mudOf(r) >= 0 && mudOf(r) != look.depth[r]));
            case "century": case "burstBy": case "firstFlood": return years(name, a, b);
            case "year":
                act();
                return yes(pass(now)[0]);
            case "mark":
                if (marks.size() == 3) {
                    return no(3);
                }
                marks.add(now.copy());
                return yes(marks.size() - 1);
            case "lacing": case "length": case "lengthSum": case "lacings": return ofLacing(name, tapeWide);
            default: return ofMud(name);
        }
    }

    private int ofChange(String name, int asItIs) {
        IntUnaryOperator harm = k -> lookSet(lacedBits() ^ 1 << k).allHarm();
        int best = least(ropes(), k -> now.rope[k] != 'b', harm);
        if (best < 0 || harm.applyAsInt(best) >= asItIs) {
            return yes(-2);
        }
        return yes(name.equals("bestChange") ? best : harm.applyAsInt(best));
    }

    private int ofLacing(String name, int tapeWide) {
        IntPredicate can = set -> {
            Look look = lookSet(set);
            return !look.floods() && bits(reaches(), r -> look.width[r] > tapeWide) == 0
                    && bits(ropes(), k -> (set >> k & 1) == 1 && (now.rope[k] == 'b' || breaks(k, look, now))) == 0;
        };
        IntUnaryOperator sum = set -> {
            int widths = 0;
            for (int r = 0; r < reaches(); r++) {
                int reach = r;
                if (first(ropes(), k -> (set >> k & 1) == 1 && all("rope").get(k)[0] == reach) >= 0) {
                    widths += lookSet(set).width[r];
                }
            }
            return widths;
        };
        int count = 0;
        for (int set = 0; set < 1 << ropes(); set++) {
            count += can.test(set) ? 1 : 0;
        }
        if (name.equals("lacings")) {
            return yes(count);
        }
        if (name.equals("lacing")) {
            return yes(least(1 << ropes(), can, Integer::bitCount));
        }
        int length = least(1 << ropes(), can, sum);
        return yes(name.equals("length") || length < 0 ? length : sum.applyAsInt(length));
    }

    private int mudOf(int r) {
        for (int[] mud : all("mud")) {
            if (mud[0] == r) {
                return mud[1];
            }
        }
        return -1;
    }

    private int ofMud(String name) {
        int laced = lacedBits();
        List<Integer> sets = new ArrayList<>();
        for (int set = 0; set < 1 << ropes(); set++) {
            if ((set & laced) == set) {
                Look look = lookSet(laced - set);
                if (first(reaches(), r -> mudOf(r) >= 0 && mudOf(r) != look.depth[r]) == -2) {
                    sets.add(set);
                }
            }
        }
        switch (name) {
            case "fits": return yes(sets.size());
            case "could": return yes(bits(ropes(), k -> sets.stream().anyMatch(set -> (set >> k & 1) == 1)));
            case "surely": return yes(bits(ropes(),
                    k -> !sets.isEmpty() && sets.stream().allMatch(set -> (set >> k & 1) == 1)));
            default: break;
        }
        IntUnaryOperator left = r -> {
            Map<Integer, Integer> tally = new TreeMap<>();
            sets.forEach(set -> tally.merge(lookSet(laced - set).depth[r], 1, Integer::sum));
            return tally.values().stream().mapToInt(v -> v).max().orElse(0);
        };
        int ask = least(reaches(), r -> mudOf(r) < 0 && !sets.isEmpty(), left);
        return yes(name.equals("ask") || ask < 0 ? ask : left.applyAsInt(ask));
    }
}
