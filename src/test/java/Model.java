import java.math.BigInteger;
import java.util.ArrayDeque;
import java.util.ArrayList;
import java.util.Arrays;
import java.util.HashMap;
import java.util.HashSet;
import java.util.List;
import java.util.Map;
import java.util.Set;
import java.util.regex.Matcher;
import java.util.regex.Pattern;

/**
 * The document once more, told as slowly and plainly as can be, to be held against the program:
 * searches try out everything, sights are sat through, games are played to their end.
 */
final class Model {
    static final int UNKNOWN = -1, OUTSIDE = -2, STATE = -3, FULL = -4, NO = -5, NONE = -6;
    private static final long GONE = -1000000000000000000L;
    private static final Pattern TEXT = Pattern.compile("([A-H]([0-9_!]|x[A-H])|#[0-9]|\\.)*");
    private static final Pattern ACT = Pattern.compile("[A-H]([0-9_!]|x[A-H])|#[0-9]|\\.");

    /** All but the pad. */
    static final class World {
        boolean[][] way = new boolean[10][10];
        boolean[] cushion = new boolean[10];
        int[] bench = {0, 1, 2, 3, 4, 5, 6, 7};
        int[] mind = {0, 1, 2, 3, 4, 5, 6, 7};
        int[] seat = new int[10];
        int[] fresh = new int[10];
        int day = 0;
        List<int[]> sights = new ArrayList<>();

        World() {
            Arrays.fill(seat, NONE);
            Arrays.fill(fresh, NONE);
        }

        World copy() {
            World w = new World();
            for (int i = 0; i < 10; i++) {
                w.way[i] = way[i].clone();
            }
            w.cushion = cushion.clone();
            w.bench = bench.clone();
            w.mind = mind.clone();
            w.seat = seat.clone();
            w.fresh = fresh.clone();
            w.day = day;
            w.sights = new ArrayList<>(sights);
            return w;
        }

        int place(int memory) {
            for (int one = 0; one < 8; one++) {
                if (mind[one] == memory) {
                    return one;
                }
            }
            for (int b = 0; b < 10; b++) {
                if (seat[b] == memory) {
                    return 10 + b;
                }
            }
            return NONE;
        }

        void remove(int memory) {
            for (int one = 0; one < 8; one++) {
                if (mind[one] == memory) {
                    mind[one] = NONE;
                }
            }
            for (int b = 0; b < 10; b++) {
                if (seat[b] == memory) {
                    seat[b] = NONE;
                    fresh[b] = NONE;
                }
            }
        }

        /** 0, or the least of all reasons that hold. */
        int reason(String act) {
            if (act.charAt(0) == '.') {
                return day == 99 ? 5 : 0;
            }
            if (act.charAt(0) == '#') {
                return 0;
            }
            int one = act.charAt(0) - 'A';
            char deed = act.charAt(1);
            int here = bench[one];
            if (deed == '!') {
                return mind[one] == NONE ? 3 : 0;
            }
            if (deed == '_') {
                return cushion[here] ? 2 : mind[one] == NONE && seat[here] == NONE ? 3 : 0;
            }
            if (deed == 'x') {
                int other = act.charAt(2) - 'A';
                if (mind[one] == NONE && mind[other] == NONE) {
                    return 3;
                }
                return one == other || bench[one] != bench[other] ? 4 : 0;
            }
            return way[here][deed - '0'] ? 0 : 1;
        }

        void act(String act, int[] hands) {
            if (act.charAt(0) == '.') {
                day++;
                for (int b = 0; b < 10; b++) {
                    if (seat[b] != NONE && --fresh[b] == 0) {
                        remove(seat[b]);
                    }
                }
                return;
            }
            if (act.charAt(0) == '#') {
                cushion[act.charAt(1) - '0'] ^= true;
                return;
            }
            int one = act.charAt(0) - 'A';
            char deed = act.charAt(1);
            if (deed == '!') {
                mind[one] = NONE;
            } else if (deed == '_') {
                int here = bench[one];
                int lay = seat[here];
                seat[here] = mind[one];
                fresh[here] = seat[here] == NONE ? NONE : 9;
                mind[one] = lay;
                hand(hands, lay);
            } else if (deed == 'x') {
                int other = act.charAt(2) - 'A';
                int kept = mind[one];
                mind[one] = mind[other];
                mind[other] = kept;
                hand(hands, mind[one]);
                hand(hands, mind[other]);
            } else {
                bench[one] = deed - '0';
            }
        }

        private static void hand(int[] hands, int memory) {
            if (memory != NONE) {
                hands[memory]++;
            }
        }
    }

    private World world = new World();
    private final StringBuilder pad = new StringBuilder();
    private final World[] images = new World[2];

    private World behind;
    private int acts, failed, why, sat;
    private int[] hands;

    private static boolean bench(int b) {
        return 0 <= b && b <= 9;
    }

    private static boolean one(int o) {
        return 0 <= o && o <= 7;
    }

    private static boolean memory(int m) {
        return 0 <= m && m <= 11;
    }

    private static boolean bit(int b) {
        return b == 0 || b == 1;
    }

    int way(int one, int other, boolean is) {
        if (!bench(one) || !bench(other) || one == other) {
            return UNKNOWN;
        }
        world.way[one][other] = is;
        world.way[other][one] = is;
        int count = 0;
        for (int i = 0; i < 10; i++) {
            for (int j = i; j < 10; j++) {
                count += world.way[i][j] ? 1 : 0;
            }
        }
        return count;
    }

    int stand(int one, int bench) {
        if (!one(one) || !bench(bench)) {
            return UNKNOWN;
        }
        int was = world.bench[one];
        world.bench[one] = bench;
        return was;
    }

    int give(int memory, int one) {
        if (!memory(memory) || !one(one)) {
            return UNKNOWN;
        }
        int was = world.place(memory);
        world.remove(memory);
        world.mind[one] = memory;
        return was;
    }

    int lay(int memory, int bench, int v) {
        if (!memory(memory) || !bench(bench)) {
            return UNKNOWN;
        }
        if (v < 1 || v > 9) {
            return OUTSIDE;
        }
        int was = world.place(memory);
        world.remove(memory);
        world.seat[bench] = memory;
        world.fresh[bench] = v;
        return was;
    }

    int forget(int memory) {
        if (!memory(memory)) {
            return UNKNOWN;
        }
        int was = world.place(memory);
        world.remove(memory);
        return was;
    }

    int say(int sign) {
        if (sign < 33 || sign > 126) {
            return OUTSIDE;
        }
        if (pad.length() == 60) {
            return FULL;
        }
        pad.append((char) sign);
        return pad.length();
    }

    int wipe() {
        int was = pad.length();
        pad.setLength(0);
        return was;
    }

    int fault() {
        for (int end = 1; end <= pad.length(); end++) {
            Matcher m = TEXT.matcher(pad.substring(0, end));
            if (!m.matches() && !m.hitEnd()) {
                return end - 1;
            }
        }
        return TEXT.matcher(pad).matches() ? NONE : pad.length();
    }

    private int tryOut() {
        if (fault() != NONE) {
            return NO;
        }
        behind = world.copy();
        hands = new int[12];
        acts = 0;
        sat = 0;
        failed = NONE;
        why = NONE;
        Matcher m = ACT.matcher(pad);
        while (m.find()) {
            String act = m.group();
            if (behind.reason(act) != 0) {
                failed = acts;
                why = behind.reason(act);
                return STATE;
            }
            behind.act(act, hands);
            acts++;
            sat += act.endsWith("_") ? 1 : 0;
        }
        return 0;
    }

    int judge(int what) {
        if (what < 0 || what > 2) {
            return OUTSIDE;
        }
        int refusal = tryOut();
        if (refusal == NO) {
            return NO;
        }
        if (what == 2) {
            return refusal == 0 ? sat : STATE;
        }
        return what == 0 ? failed : why;
    }

    int behind(int one, int what) {
        if (!one(one)) {
            return UNKNOWN;
        }
        if (!bit(what)) {
            return OUTSIDE;
        }
        int refusal = tryOut();
        return refusal != 0 ? refusal : what == 0 ? behind.bench[one] : behind.mind[one];
    }

    int lies(int bench, int what) {
        if (!bench(bench)) {
            return UNKNOWN;
        }
        if (!bit(what)) {
            return OUTSIDE;
        }
        int refusal = tryOut();
        return refusal != 0 ? refusal : what == 0 ? behind.seat[bench] : behind.fresh[bench];
    }

    int hands(int memory, int what) {
        if (!memory(memory)) {
            return UNKNOWN;
        }
        if (!bit(what)) {
            return OUTSIDE;
        }
        int refusal = tryOut();
        if (refusal != 0) {
            return refusal;
        }
        int place = behind.place(memory);
        return what == 0 ? hands[memory] : place < 10 ? place : NONE;
    }

    int most() {
        int refusal = tryOut();
        if (refusal != 0) {
            return refusal;
        }
        int most = Arrays.stream(hands).max().getAsInt();
        for (int m = 0; m < 12; m++) {
            if (most > 0 && hands[m] == most) {
                return m;
            }
        }
        return NONE;
    }

    int done() {
        int refusal = tryOut();
        if (refusal != 0) {
            return refusal;
        }
        world = behind;
        pad.setLength(0);
        return acts;
    }

    /** Steps by whatever matrix of ways there is, by squaring nothing and trying all. */
    private int[][] distances() {
        int[][] d = new int[10][10];
        for (int i = 0; i < 10; i++) {
            for (int j = 0; j < 10; j++) {
                d[i][j] = i == j ? 0 : world.way[i][j] ? 1 : 1000;
            }
        }
        for (int k = 0; k < 10; k++) {
            for (int i = 0; i < 10; i++) {
                for (int j = 0; j < 10; j++) {
                    d[i][j] = Math.min(d[i][j], d[i][k] + d[k][j]);
                }
            }
        }
        return d;
    }

    int steps(int from, int to) {
        if (!bench(from) || !bench(to)) {
            return UNKNOWN;
        }
        int d = distances()[from][to];
        return d >= 1000 ? NONE : d;
    }

    int get(int one, int memory) {
        if (!one(one) || !memory(memory)) {
            return UNKNOWN;
        }
        int place = world.place(memory);
        if (place < 10) {
            return STATE;
        }
        int d = steps(world.bench[one], place - 10);
        return d == NONE || world.cushion[place - 10] ? NONE : d + 1;
    }

    /** Walks about step by step, remembering which benches of the set he was at. */
    int round(int bench, int set) {
        if (!bench(bench)) {
            return UNKNOWN;
        }
        if (set < 0 || set > 1023) {
            return OUTSIDE;
        }
        int start = bench * 1024 + (set & 1 << bench);
        Map<Integer, Integer> met = new HashMap<>();
        ArrayDeque<Integer> queue = new ArrayDeque<>();
        met.put(start, 0);
        queue.add(start);
        while (!queue.isEmpty()) {
            int state = queue.poll();
            if (state == bench * 1024 + set) {
                return met.get(state);
            }
            for (int next = 0; next < 10; next++) {
                int then = next * 1024 + (state % 1024 | set & 1 << next);
                if (world.way[state / 1024][next] && !met.containsKey(then)) {
                    met.put(then, met.get(state) + 1);
                    queue.add(then);
                }
            }
        }
        return NONE;
    }

    private String longest;

    private void walkOn(String walk) {
        if (walk.length() > longest.length()) {
            longest = walk;
        }
        for (int next = 0; next < 10; next++) {
            if (world.way[walk.charAt(walk.length() - 1) - '0'][next] && walk.indexOf('0' + next) < 0) {
                walkOn(walk + next);
            }
        }
    }

    int walk(int bench, int what) {
        if (!bench(bench)) {
            return UNKNOWN;
        }
        if (!bit(what)) {
            return OUTSIDE;
        }
        longest = "";
        walkOn("" + bench);
        return what == 0 ? longest.length() - 1 : Integer.parseInt("0" + longest.substring(1));
    }

    private static final Map<String, Integer> SITTINGS = new HashMap<>();

    private static String sit(String row, int bench) {
        char[] c = row.toCharArray();
        char kept = c[0];
        c[0] = c[bench];
        c[bench] = kept;
        return new String(c);
    }

    /** How often he sits at the fewest, for every row, sought from the right one outward. */
    static Map<String, Integer> sittings() {
        if (SITTINGS.isEmpty()) {
            ArrayDeque<String> queue = new ArrayDeque<>();
            SITTINGS.put("0123456", 0);
            queue.add("0123456");
            while (!queue.isEmpty()) {
                String row = queue.poll();
                for (int b = 1; b <= 6; b++) {
                    String next = sit(row, b);
                    if (!SITTINGS.containsKey(next)) {
                        SITTINGS.put(next, SITTINGS.get(row) + 1);
                        queue.add(next);
                    }
                }
            }
        }
        return SITTINGS;
    }

    int right(int row, int what) {
        String text = row < 0 ? "none" : String.format("%07d", row);
        if (!sittings().containsKey(text) || !bit(what)) {
            return OUTSIDE;
        }
        int need = sittings().get(text);
        if (what == 0) {
            return need;
        }
        for (int b = 1; b <= 6; b++) {
            if (sittings().get(sit(text, b)) == need - 1) {
                return b;
            }
        }
        return NONE;
    }

    int seen(int sittings, int k, boolean had) {
        if (sittings < 0 || sittings > 60 || k < 0 || k > 7) {
            return OUTSIDE;
        }
        if (world.sights.size() == 8) {
            return FULL;
        }
        world.sights.add(new int[] {sittings, k, had ? 1 : 0});
        return world.sights.size();
    }

    int clear() {
        int was = world.sights.size();
        world.sights.clear();
        return was;
    }

    /** The sittings one by one: each leaves what he has, and gets up with what lay there. */
    private static int holder(int n, int f, int sittings) {
        String[] mind = new String[n];
        Arrays.fill(mind, "another");
        mind[f] = "yellow";
        String seat = "nothing";
        for (int t = 0; t < sittings; t++) {
            String kept = mind[t % n];
            mind[t % n] = seat;
            seat = kept;
        }
        return Arrays.asList(mind).indexOf("yellow");
    }

    private List<Integer> fitting() {
        List<Integer> fitting = new ArrayList<>();
        for (int n = 2; n <= 8; n++) {
            for (int f = 0; f < n; f++) {
                boolean all = true;
                for (int[] sight : world.sights) {
                    all &= (holder(n, f, sight[0]) == sight[1]) == (sight[2] == 1);
                }
                if (all) {
                    fitting.add(10 * n + f);
                }
            }
        }
        return fitting;
    }

    int fits(int i) {
        List<Integer> fitting = fitting();
        return i == -1 ? fitting.size() : i >= 0 && i < fitting.size() ? fitting.get(i) : NONE;
    }

    int ask(int what) {
        if (!bit(what)) {
            return OUTSIDE;
        }
        List<Integer> fitting = fitting();
        int best = NONE;
        int least = 1000;
        for (int s = 0; s <= 60 && !fitting.isEmpty(); s++) {
            for (int k = 0; k <= 7; k++) {
                int had = 0;
                for (int code : fitting) {
                    had += holder(code / 10, code % 10, s) == k ? 1 : 0;
                }
                if (Math.max(had, fitting.size() - had) < least) {
                    least = Math.max(had, fitting.size() - had);
                    best = 10 * s + k;
                }
            }
        }
        return best == NONE ? NONE : what == 0 ? best : least;
    }

    private static final Map<Long, Boolean> WON = new HashMap<>();

    /** Whether who is to take can win, with just these benches free of all blocking. */
    private static boolean wins(long free) {
        if (free == 0) {
            return false;
        }
        Boolean known = WON.get(free);
        if (known == null) {
            known = false;
            for (int b = 0; b < 40 && !known; b++) {
                known = (free >> b & 1) == 1 && !wins(free & ~(7L << b >> 1));
            }
            WON.put(free, known);
        }
        return known;
    }

    private static final int[] WORTH = new int[41];

    private static int worth(int n) {
        if (n <= 0) {
            return 0;
        }
        if (WORTH[n] == 0) {
            Set<Integer> met = new HashSet<>();
            for (int b = 0; b < n; b++) {
                met.add(worth(b - 1) ^ worth(n - b - 2));
            }
            int least = 0;
            while (met.contains(least)) {
                least++;
            }
            WORTH[n] = least + 1;
        }
        return WORTH[n] - 1;
    }

    /** Played out for short rows; long ones are told by their worths. */
    static int firstTaken(int n) {
        for (int b = 0; b < n; b++) {
            long free = (1L << n) - 1 & ~(7L << b >> 1);
            if (n <= 18 ? !wins(free) : (worth(b - 1) ^ worth(n - b - 2)) == 0) {
                return b;
            }
        }
        return NONE;
    }

    int take(int n, int what) {
        if (n < 0 || n > 40 || !bit(what)) {
            return OUTSIDE;
        }
        int first = firstTaken(n);
        return what == 1 ? first : first == NONE ? 0 : 1;
    }

    long evenings(int m, int n, int what, int part) {
        if (m < 0 || m > 12 || n < 1 || n > 10 || !bit(what) || !bit(part)) {
            return GONE + OUTSIDE;
        }
        BigInteger lower = BigInteger.valueOf(n).pow(m);
        BigInteger upper = lower.subtract(BigInteger.valueOf(n - 1).pow(m));
        if (what == 1) {
            upper = upper.multiply(BigInteger.valueOf(n));
        }
        BigInteger common = upper.gcd(lower);
        return (part == 0 ? upper : lower).divide(common).longValueExact();
    }

    int season(int seed, int m, int what) {
        if (seed < 0 || seed > 9999 || m < 1 || m > 99 || what < 0 || what > 2) {
            return OUTSIDE;
        }
        World w = world.copy();
        long x = seed;
        for (int i = 0; i < m; i++) {
            x = (75 * x + 74) % 65537;
            String act = drawn((int) x);
            if (!act.isEmpty() && w.reason(act) == 0) {
                w.act(act, new int[12]);
            }
        }
        int[] count = new int[2];
        for (int memory = 0; memory < 12; memory++) {
            int place = w.place(memory);
            count[0] += place == NONE ? 1 : 0;
            count[1] += place >= 10 ? 1 : 0;
        }
        return what == 2 ? w.day : count[what];
    }

    private static String drawn(int x) {
        String one = "" + (char) ('A' + x % 8);
        int z = x / 64;
        int lot = x / 8 % 8;
        if (lot == 7) {
            return ".";
        }
        if (lot == 6) {
            return z % 8 == 0 ? one + "!" : "";
        }
        if (lot == 5) {
            return one + "x" + (char) ('A' + z % 8);
        }
        return lot >= 3 ? one + "_" : one + z % 10;
    }

    int image(int k) {
        if (!bit(k)) {
            return OUTSIDE;
        }
        images[k] = world.copy();
        return 1;
    }

    int restore(int k) {
        if (!bit(k)) {
            return OUTSIDE;
        }
        if (images[k] == null) {
            return STATE;
        }
        world = images[k].copy();
        return 1;
    }

    private static int bits(boolean[] set) {
        int bits = 0;
        for (int i = 0; i < set.length; i++) {
            bits |= set[i] ? 1 << i : 0;
        }
        return bits;
    }

    int told(int what) {
        if (what >= 100 && what <= 111) {
            return world.place(what - 100);
        }
        if (what < 0 || what > 57) {
            return OUTSIDE;
        }
        int of = what % 10;
        switch (what / 10) {
            case 0: return of > 3 ? OUTSIDE
                    : new int[] {pad.length(), bits(world.cushion), world.day, world.sights.size()}[of];
            case 1: return bits(world.way[of]);
            case 2: return world.seat[of];
            case 3: return world.fresh[of];
            case 4: return of > 7 ? OUTSIDE : world.bench[of];
            default: return of > 7 ? OUTSIDE : world.mind[of];
        }
    }
}
