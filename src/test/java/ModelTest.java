/** Long runs of calls, ordinary and wild ones, each answer held against the plain model. */
public final class ModelTest {
    private static final Due due = new Due("ModelTest");
    private static final int CALLS = 512;

    /** Numbers that follow from a seed, so that a run that went wrong can be had again. */
    private static final class Lots {
        private long x;

        Lots(long seed) {
            x = seed * 2654435761L + 12345;
        }

        int below(int bound) {
            x = x * 6364136223846793005L + 1442695040888963407L;
            return (int) ((x >>> 33) % bound);
        }

        boolean once(int in) {
            return below(in) == 0;
        }

        /** From least to most, and now and then a little or far outside. */
        int near(int least, int most) {
            if (once(40)) {
                int[] wild = {Integer.MIN_VALUE, Integer.MAX_VALUE, -1, -100, 1000000, least - 1, most + 1};
                return wild[below(wild.length)];
            }
            return least + below(most - least + 1);
        }
    }

    public static void main(String[] args) {
        for (int run = 0; run < 400; run++) {
            run(run);
        }
        for (int run = 0; run < 300; run++) {
            mapRun(run);
        }
        allRows();
        allTakes();
        allEvenings();
        allSights();
        due.end();
    }

    private static void run(int seed) {
        Lots lots = new Lots(seed);
        BenchMemories x = new BenchMemories();
        Model m = new Model();
        int quiet = seed % 4;
        if (quiet > 0) {
            for (int i = 0; i < 10 * quiet; i++) {
                call(seed, lots, x, m, 0);
            }
        }
        for (int i = 10 * quiet; i < CALLS; i++) {
            call(seed, lots, x, m, lots.below(34));
        }
        snapshot(seed, x, m);
    }

    private static void is(int seed, String call, long got, long want) {
        due.is("run " + seed + ", " + call, got, want);
    }

    private static void snapshot(int seed, BenchMemories x, Model m) {
        for (int what = -2; what < 120; what++) {
            is(seed, "told(" + what + ")", x.told(what), m.told(what));
        }
    }

    private static void call(int seed, Lots lots, BenchMemories x, Model m, int which) {
        if (which < 12) {
            change(seed, lots, x, m, which);
        } else if (which < 20) {
            days(seed, lots, x, m, which);
        } else {
            question(seed, lots, x, m, which);
        }
    }

    private static void change(int seed, Lots lots, BenchMemories x, Model m, int which) {
        int a = lots.near(0, 9);
        int b = lots.near(0, 9);
        int one = lots.near(0, 7);
        int memory = lots.near(0, 11);
        switch (which) {
            case 0: case 1: {
                boolean is = !lots.once(4);
                is(seed, "way " + a + " " + b + " " + is, x.way(a, b, is), m.way(a, b, is));
                break;
            }
            case 2: is(seed, "stand " + one + " " + a, x.stand(one, a), m.stand(one, a)); break;
            case 3: is(seed, "give " + memory + " " + one, x.give(memory, one), m.give(memory, one)); break;
            case 4: {
                int v = lots.near(1, 9);
                is(seed, "lay " + memory + " " + a + " " + v, x.lay(memory, a, v), m.lay(memory, a, v));
                break;
            }
            case 5: is(seed, "forget " + memory, x.forget(memory), m.forget(memory)); break;
            case 6: {
                int s = lots.near(0, 60);
                int k = lots.near(0, 7);
                boolean had = lots.once(2);
                is(seed, "seen " + s + " " + k + " " + had, x.seen(s, k, had), m.seen(s, k, had));
                break;
            }
            case 7: {
                if (lots.once(2)) {
                    is(seed, "clear", x.clear(), m.clear());
                }
                break;
            }
            case 8: {
                int k = lots.near(0, 1);
                is(seed, "image " + k, x.image(k), m.image(k));
                break;
            }
            case 9: {
                int k = lots.near(0, 1);
                is(seed, "restore " + k, x.restore(k), m.restore(k));
                break;
            }
            case 10: snapshotOne(seed, lots, x, m); break;
            default: is(seed, "wipe", x.wipe(), m.wipe()); break;
        }
    }

    private static void snapshotOne(int seed, Lots lots, BenchMemories x, Model m) {
        int what = lots.near(0, 115);
        is(seed, "told " + what, x.told(what), m.told(what));
    }

    /** A text, mostly of acts that can be, then all that is told of it. */
    private static void days(int seed, Lots lots, BenchMemories x, Model m, int which) {
        for (int i = lots.below(8); i >= 0; i--) {
            String act = act(lots);
            for (char sign : act.toCharArray()) {
                is(seed, "say " + sign, x.say(sign), m.say(sign));
            }
            // an act that can not be is mostly taken back, by which long texts come about
            if (m.judge(0) != Model.NONE && !lots.once(6)) {
                x.wipe();
                m.wipe();
            }
        }
        if (lots.once(30)) {
            int sign = lots.near(30, 130);
            is(seed, "say " + sign, x.say(sign), m.say(sign));
        }
        is(seed, "fault", x.fault(), m.fault());
        int what = lots.near(0, 2);
        is(seed, "judge " + what, x.judge(what), m.judge(what));
        int of = lots.near(0, 11);
        int part = lots.near(0, 1);
        is(seed, "behind " + of + " " + part, x.behind(of, part), m.behind(of, part));
        is(seed, "lies " + of + " " + part, x.lies(of, part), m.lies(of, part));
        is(seed, "hands " + of + " " + part, x.hands(of, part), m.hands(of, part));
        is(seed, "most", x.most(), m.most());
        if (which % 3 == 0) {
            is(seed, "done", x.done(), m.done());
        }
    }

    private static String act(Lots lots) {
        String one = "" + (char) ('A' + lots.below(8));
        switch (lots.below(9)) {
            case 0: case 1: case 2: return one + "_";
            case 3: case 4: return one + lots.below(10);
            case 5: return one + "x" + (char) ('A' + lots.below(8));
            case 6: return lots.once(3) ? one + "!" : one + "_";
            case 7: return lots.once(3) ? "#" + lots.below(10) : one + "_";
            default: return ".";
        }
    }

    private static void question(int seed, Lots lots, BenchMemories x, Model m, int which) {
        int a = lots.near(0, 9);
        int b = lots.near(0, 9);
        int bit = lots.near(0, 1);
        switch (which) {
            case 20: case 21: is(seed, "steps " + a + " " + b, x.steps(a, b), m.steps(a, b)); break;
            case 22: case 23: {
                int memory = lots.near(0, 11);
                is(seed, "get " + a + " " + memory, x.get(a, memory), m.get(a, memory));
                break;
            }
            case 24: {
                int set = lots.near(0, 1023) & (lots.once(2) ? -1 : lots.below(1024));
                is(seed, "round " + a + " " + set, x.round(a, set), m.round(a, set));
                break;
            }
            case 25: {
                int row = lots.near(0, 6543210);
                is(seed, "right " + row + " " + bit, x.right(row, bit), m.right(row, bit));
                break;
            }
            case 26: case 27: {
                int i = lots.near(-2, 35);
                is(seed, "fits " + i, x.fits(i), m.fits(i));
                is(seed, "fits -1", x.fits(-1), m.fits(-1));
                break;
            }
            case 28: is(seed, "ask " + bit, x.ask(bit), m.ask(bit)); break;
            case 29: {
                int n = lots.near(0, 40);
                is(seed, "take " + n + " " + bit, x.take(n, bit), m.take(n, bit));
                break;
            }
            case 30: {
                int e = lots.near(0, 12);
                int n = lots.near(1, 10);
                int part = lots.near(0, 1);
                String call = "evenings " + e + " " + n + " " + bit + " " + part;
                is(seed, call, x.evenings(e, n, bit, part), m.evenings(e, n, bit, part));
                break;
            }
            default: {
                int draw = lots.near(0, 9999);
                int acts = lots.near(1, 99);
                int what = lots.near(0, 2);
                String call = "season " + draw + " " + acts + " " + what;
                is(seed, call, x.season(draw, acts, what), m.season(draw, acts, what));
                break;
            }
        }
    }

    /** Nets of all kinds, from scattered ones to full ones, with all their walks and some rounds. */
    private static void mapRun(int seed) {
        Lots lots = new Lots(77000 + seed);
        BenchMemories x = new BenchMemories();
        Model m = new Model();
        int count = 3 + seed % 17;
        for (int i = 0; i < count; i++) {
            int a = lots.below(10);
            int b = lots.below(10);
            is(seed, "way", x.way(a, b, true), m.way(a, b, true));
        }
        for (int bench = 0; bench < 10; bench++) {
            is(seed, "walk " + bench, x.walk(bench, 0), m.walk(bench, 0));
            is(seed, "walk, which, " + bench, x.walk(bench, 1), m.walk(bench, 1));
            int set = lots.below(1024) & (lots.once(2) ? lots.below(1024) : -1);
            is(seed, "round " + bench + " " + set, x.round(bench, set), m.round(bench, set));
            is(seed, "round by all " + bench, x.round(bench, 1023), m.round(bench, 1023));
            for (int to = 0; to < 10; to++) {
                is(seed, "steps " + bench + " " + to, x.steps(bench, to), m.steps(bench, to));
            }
        }
    }

    private static void allRows() {
        BenchMemories x = new BenchMemories();
        Model m = new Model();
        due.is("how many rows there are", Model.sittings().size(), 5040);
        for (String row : Model.sittings().keySet()) {
            int number = Integer.parseInt(row);
            due.is("right " + row, x.right(number, 0), m.right(number, 0));
            due.is("right, where, " + row, x.right(number, 1), m.right(number, 1));
        }
    }

    private static void allTakes() {
        BenchMemories x = new BenchMemories();
        Model m = new Model();
        for (int n = 0; n <= 40; n++) {
            due.is("take " + n, x.take(n, 0), m.take(n, 0));
            due.is("take, which, " + n, x.take(n, 1), m.take(n, 1));
        }
        // as the books have it of Dawson's chess
        for (int n : new int[] {0, 4, 8, 14, 20, 24, 28, 34, 38}) {
            due.is("take " + n + " is lost", x.take(n, 0), 0);
        }
    }

    /** Every way to sit m evenings on n benches, for as many as can be gone through. */
    private static void allEvenings() {
        BenchMemories x = new BenchMemories();
        for (int m = 0; m <= 6; m++) {
            for (int n = 1; n <= 6; n++) {
                long all = Math.round(Math.pow(n, m));
                long met = 0;
                long benches = 0;
                for (long way = 0; way < all; way++) {
                    int set = benchesOf(way, m, n);
                    met += set & 1;
                    benches += Integer.bitCount(set);
                }
                fraction("evenings " + m + " " + n, x, new int[] {m, n, 0}, met, all);
                fraction("evenings, mean, " + m + " " + n, x, new int[] {m, n, 1}, benches, all);
            }
        }
    }

    private static int benchesOf(long way, int m, int n) {
        int set = 0;
        for (int i = 0; i < m; i++) {
            set |= 1 << (int) (way % n);
            way /= n;
        }
        return set;
    }

    private static void fraction(String call, BenchMemories x, int[] of, long upper, long lower) {
        long u = x.evenings(of[0], of[1], of[2], 0);
        long l = x.evenings(of[0], of[1], of[2], 1);
        due.is(call + ", value", u * lower, l * upper);
        due.is(call + ", lowest terms", java.math.BigInteger.valueOf(u).gcd(java.math.BigInteger.valueOf(l)).longValue(), 1);
        due.holds(call + ", lower above 0", l > 0);
    }

    private static void allSights() {
        for (int s = 0; s <= 60; s++) {
            for (int k = 0; k <= 7; k++) {
                for (int had = 0; had <= 1; had++) {
                    BenchMemories x = new BenchMemories();
                    Model m = new Model();
                    x.seen(s, k, had == 1);
                    m.seen(s, k, had == 1);
                    for (int i = -1; i <= 35; i++) {
                        due.is("fits " + i + " of " + s + " " + k + " " + had, x.fits(i), m.fits(i));
                    }
                    if (s % 6 == 0) {
                        due.is("ask of " + s + " " + k + " " + had, x.ask(0), m.ask(0));
                        due.is("ask, left, of " + s + " " + k + " " + had, x.ask(1), m.ask(1));
                    }
                }
            }
        }
    }
}
