import java.util.Arrays;

/** Memories that are left on the benches of a garden, by whom, and whose they were first. */
public final class BenchMemories {
    public static final int UNKNOWN = -1, OUTSIDE = -2, STATE = -3, FULL = -4, NO = -5, NONE = -6;
    public static final long GONE = -1000000000000000000L;

    private static final int BENCHES = 10, ONES = 8, MEMORIES = 12;
    /** Where a memory is, as one number: a one's own, this and a bench, or NONE. */
    private static final int ON_BENCH = 10;
    private static final int FRESHEST = 9, LAST_DAY = 99;
    private static final int SIGNS = 60, FIRST_SIGN = 33, LAST_SIGN = 126;
    private static final int SIGHTS = 8, LAST_SITTING = 60, LEAST_SITTERS = 2, MOST_SITTERS = 8;
    private static final int IMAGES = 2, LONGEST_ROW = 40;
    private static final int LAST_SEED = 9999, LAST_DRAW = 99;
    private static final int EVENINGS = 12;

    private static final int GO = 0, SIT = 1, CHANGE = 2, CONFESS = 3, CUSHION = 4, EVENING = 5;
    /** Why an act can not be. */
    private static final int NO_WAY = 1, CUSHIONED = 2, NOTHING = 3, NOT_TOGETHER = 4, NO_MORE_DAYS = 5;
    private static final int ALLOWED = 0;

    private final Garden garden = new Garden();
    private final Garden firstImage = new Garden();
    private final Garden secondImage = new Garden();
    private final Pad pad = new Pad();
    private final Course course = new Course();
    private final Rounds rounds = new Rounds();
    private final Walks walks = new Walks();
    private final Order order = new Order();
    private final Suspects suspects = new Suspects();
    private final Turns turns = new Turns();
    private int imagesKept;

    public BenchMemories() {
    }

    // ---- 1 benches, people, memories

    public int way(int one, int other, boolean is) {
        if (!isBench(one) || !isBench(other) || one == other) {
            return UNKNOWN;
        }
        garden.setWay(one, other, is);
        return garden.countWays();
    }

    public int stand(int one, int bench) {
        if (!isOne(one) || !isBench(bench)) {
            return UNKNOWN;
        }
        int before = garden.benchOf(one);
        garden.standAt(one, bench);
        return before;
    }

    public int give(int memory, int one) {
        if (!isMemory(memory) || !isOne(one)) {
            return UNKNOWN;
        }
        int before = garden.placeOf(memory);
        garden.makeNowhere(garden.heldBy(one));
        garden.putWith(memory, one);
        return before;
    }

    public int lay(int memory, int bench, int v) {
        if (!isMemory(memory) || !isBench(bench)) {
            return UNKNOWN;
        }
        if (!isWithin(v, 1, FRESHEST)) {
            return OUTSIDE;
        }
        int before = garden.placeOf(memory);
        garden.makeNowhere(garden.lyingOn(bench));
        garden.putOn(memory, bench, v);
        return before;
    }

    public int forget(int memory) {
        if (!isMemory(memory)) {
            return UNKNOWN;
        }
        int before = garden.placeOf(memory);
        garden.makeNowhere(memory);
        return before;
    }

    public int say(int sign) {
        if (!isWithin(sign, FIRST_SIGN, LAST_SIGN)) {
            return OUTSIDE;
        }
        if (pad.count >= SIGNS) {
            return FULL;
        }
        pad.append(sign);
        return pad.count;
    }

    public int wipe() {
        int before = pad.count;
        pad.empty();
        return before;
    }

    public int fault() {
        return pad.firstFault();
    }

    // ---- 2 days

    public int judge(int what) {
        if (!isWithin(what, 0, 2)) {
            return OUTSIDE;
        }
        int refusal = course.tryOut(garden, pad);
        if (refusal == NO || (what == 2 && refusal == STATE)) {
            return refusal;
        }
        if (what == 2) {
            return course.sittings;
        }
        return what == 0 ? course.failed : course.reason;
    }

    public int behind(int one, int what) {
        if (!isOne(one)) {
            return UNKNOWN;
        }
        if (!isWithin(what, 0, 1)) {
            return OUTSIDE;
        }
        int refusal = course.tryOut(garden, pad);
        if (refusal != ALLOWED) {
            return refusal;
        }
        return what == 0 ? course.trial.benchOf(one) : course.trial.heldBy(one);
    }

    public int lies(int bench, int what) {
        if (!isBench(bench)) {
            return UNKNOWN;
        }
        if (!isWithin(what, 0, 1)) {
            return OUTSIDE;
        }
        int refusal = course.tryOut(garden, pad);
        if (refusal != ALLOWED) {
            return refusal;
        }
        return what == 0 ? course.trial.lyingOn(bench) : course.trial.freshOn(bench);
    }

    public int hands(int memory, int what) {
        if (!isMemory(memory)) {
            return UNKNOWN;
        }
        if (!isWithin(what, 0, 1)) {
            return OUTSIDE;
        }
        int refusal = course.tryOut(garden, pad);
        if (refusal != ALLOWED) {
            return refusal;
        }
        if (what == 0) {
            return course.handsOf.at(memory);
        }
        int place = course.trial.placeOf(memory);
        return isOne(place) ? place : NONE;
    }

    public int most() {
        int refusal = course.tryOut(garden, pad);
        return refusal != ALLOWED ? refusal : course.mostHanded();
    }

    public int done() {
        int refusal = course.tryOut(garden, pad);
        if (refusal != ALLOWED) {
            return refusal;
        }
        garden.copyFrom(course.trial);
        pad.empty();
        return course.acts;
    }

    public int steps(int from, int to) {
        return isBench(from) && isBench(to) ? garden.stepsBetween(from, to) : UNKNOWN;
    }

    // ---- 3 getting, rounds, all right

    public int get(int one, int memory) {
        if (!isOne(one) || !isMemory(memory)) {
            return UNKNOWN;
        }
        int bench = garden.placeOf(memory) - ON_BENCH;
        if (!isBench(bench)) {
            return STATE;
        }
        int way = garden.stepsBetween(garden.benchOf(one), bench);
        return way == NONE || garden.hasCushion(bench) ? NONE : way + 1;
    }

    public int round(int bench, int set) {
        if (!isBench(bench)) {
            return UNKNOWN;
        }
        if (!isWithin(set, 0, (1 << BENCHES) - 1)) {
            return OUTSIDE;
        }
        return rounds.shortest(garden, bench, set);
    }

    public int walk(int bench, int what) {
        if (!isBench(bench)) {
            return UNKNOWN;
        }
        if (!isWithin(what, 0, 1)) {
            return OUTSIDE;
        }
        walks.explore(garden, bench);
        int longest = walks.longestFrom(bench);
        return what == 0 ? longest : walks.firstFrom(garden, bench, longest);
    }

    public int right(int row, int what) {
        if (!order.read(row) || !isWithin(what, 0, 1)) {
            return OUTSIDE;
        }
        return what == 0 ? order.sittingsLeft() : order.firstSitting();
    }

    // ---- 4 whose it was, benches by turns, evenings

    public int seen(int sittings, int k, boolean had) {
        if (!isWithin(sittings, 0, LAST_SITTING) || !isWithin(k, 0, MOST_SITTERS - 1)) {
            return OUTSIDE;
        }
        if (garden.sightCount >= SIGHTS) {
            return FULL;
        }
        garden.addSight(sittings, k, had);
        return garden.sightCount;
    }

    public int clear() {
        int before = garden.sightCount;
        garden.dropSights();
        return before;
    }

    public int fits(int i) {
        suspects.sift(garden);
        if (i == -1) {
            return suspects.count;
        }
        return isWithin(i, 0, suspects.count - 1) ? suspects.codes.at(i) : NONE;
    }

    public int ask(int what) {
        if (!isWithin(what, 0, 1)) {
            return OUTSIDE;
        }
        suspects.sift(garden);
        if (suspects.count == 0) {
            return NONE;
        }
        suspects.chooseQuestion();
        return what == 0 ? suspects.question : suspects.mostLeft;
    }

    public int take(int n, int what) {
        if (!isWithin(n, 0, LONGEST_ROW) || !isWithin(what, 0, 1)) {
            return OUTSIDE;
        }
        int first = turns.winningBench(n);
        if (what == 1) {
            return first;
        }
        return first == NONE ? 0 : 1;
    }

    public long evenings(int m, int n, int what, int part) {
        boolean asTold = isWithin(m, 0, EVENINGS) && isWithin(n, 1, BENCHES)
                && isWithin(what, 0, 1) && isWithin(part, 0, 1);
        if (!asTold) {
            return GONE + OUTSIDE;
        }
        long all = power(n, m);
        long upper = all - power(n - 1, m);
        // each bench is met as likely as the told one, so the mean is n times its chance
        if (what == 1) {
            upper *= n;
        }
        long common = Math.max(1L, commonDivisor(upper, all));
        return (part == 0 ? upper : all) / common;
    }

    public int season(int seed, int m, int what) {
        boolean asTold = isWithin(seed, 0, LAST_SEED) && isWithin(m, 1, LAST_DRAW) && isWithin(what, 0, 2);
        if (!asTold) {
            return OUTSIDE;
        }
        course.drift(garden, seed, m);
        if (what == 2) {
            return course.trial.day;
        }
        return what == 0 ? course.trial.countNowhere() : course.trial.countOnBenches();
    }

    public int image(int k) {
        if (!isWithin(k, 0, IMAGES - 1)) {
            return OUTSIDE;
        }
        Garden kept = k == 0 ? firstImage : secondImage;
        kept.copyFrom(garden);
        imagesKept |= 1 << k;
        return 1;
    }

    public int restore(int k) {
        if (!isWithin(k, 0, IMAGES - 1)) {
            return OUTSIDE;
        }
        if (!has(imagesKept, k)) {
            return STATE;
        }
        garden.copyFrom(k == 0 ? firstImage : secondImage);
        return 1;
    }

    public int told(int what) {
        switch (what) {
            case 0: return pad.count;
            case 1: return garden.cushions;
            case 2: return garden.day;
            case 3: return garden.sightCount;
            default: return toldOfOne(what);
        }
    }

    private int toldOfOne(int what) {
        if (isBench(what - 10)) {
            return garden.waysFrom(what - 10);
        }
        if (isBench(what - 20)) {
            return garden.lyingOn(what - 20);
        }
        if (isBench(what - 30)) {
            return garden.freshOn(what - 30);
        }
        if (isOne(what - 40)) {
            return garden.benchOf(what - 40);
        }
        if (isOne(what - 50)) {
            return garden.heldBy(what - 50);
        }
        return isMemory(what - 100) ? garden.placeOf(what - 100) : OUTSIDE;
    }

    private static boolean isWithin(int number, int least, int most) {
        return number >= least && number <= most;
    }

    private static boolean isBench(int number) {
        return isWithin(number, 0, BENCHES - 1);
    }

    private static boolean isOne(int number) {
        return isWithin(number, 0, ONES - 1);
    }

    private static boolean isMemory(int number) {
        return isWithin(number, 0, MEMORIES - 1);
    }

    private static boolean has(int set, int member) {
        return (set >> member & 1) != 0;
    }

    private static long power(int base, int exponent) {
        long product = 1;
        for (int i = 0; i < exponent; i++) {
            product *= base;
        }
        return product;
    }

    private static long commonDivisor(long one, long other) {
        long greater = one;
        long less = other;
        // two numbers below 10 to the 14th are through in far fewer turns
        for (int turn = 0; turn < 200 && less != 0; turn++) {
            long rest = greater % less;
            greater = less;
            less = rest;
        }
        return greater;
    }

    /** A row of numbers; its cells are the one place where arrays are touched. */
    private static final class Row {
        private final int[] cells;

        Row(int length) {
            cells = new int[Math.max(0, length)];
        }

        int at(int i) {
            return i >= 0 && i < cells.length ? cells[i] : NONE;
        }

        void put(int i, int value) {
            if (i >= 0 && i < cells.length) {
                cells[i] = value;
            }
        }

        void fillWith(int value) {
            Arrays.fill(cells, value);
        }

        void copyFrom(Row other) {
            if (other != null && other.cells.length == cells.length) {
                System.arraycopy(other.cells, 0, cells, 0, cells.length);
            }
        }
    }

    /** All but the pad: what is kept in an image, and what days are tried out on. */
    private static final class Garden {
        private final Row ways = new Row(BENCHES);
        private final Row stands = new Row(ONES);
        /** Held here alone, so that no one and no bench can ever have two. */
        private final Row places = new Row(MEMORIES);
        private final Row freshness = new Row(MEMORIES);
        private final Row sights = new Row(SIGHTS);
        private int sightCount;
        private int cushions;
        private int day;

        Garden() {
            for (int one = 0; one < ONES; one++) {
                stands.put(one, one);
            }
            for (int memory = 0; memory < MEMORIES; memory++) {
                places.put(memory, isOne(memory) ? memory : NONE);
            }
        }

        void copyFrom(Garden other) {
            if (other == null) {
                return;
            }
            ways.copyFrom(other.ways);
            stands.copyFrom(other.stands);
            places.copyFrom(other.places);
            freshness.copyFrom(other.freshness);
            sights.copyFrom(other.sights);
            sightCount = other.sightCount;
            cushions = other.cushions;
            day = other.day;
        }

        int waysFrom(int bench) {
            return ways.at(bench);
        }

        void setWay(int one, int other, boolean is) {
            int behindOne = ways.at(one) & ~(1 << other);
            int behindOther = ways.at(other) & ~(1 << one);
            ways.put(one, is ? behindOne | 1 << other : behindOne);
            ways.put(other, is ? behindOther | 1 << one : behindOther);
        }

        int countWays() {
            int ends = 0;
            for (int bench = 0; bench < BENCHES; bench++) {
                ends += Integer.bitCount(ways.at(bench));
            }
            return ends / 2;
        }

        /** The benches to which a way leads from some bench of the set. */
        int neighboursOf(int set) {
            int neighbours = 0;
            for (int bench = 0; bench < BENCHES; bench++) {
                if (has(set, bench)) {
                    neighbours |= ways.at(bench);
                }
            }
            return neighbours;
        }

        int stepsBetween(int from, int to) {
            int reached = 1 << from;
            for (int steps = 0; steps < BENCHES; steps++) {
                if (has(reached, to)) {
                    return steps;
                }
                reached |= neighboursOf(reached);
            }
            return NONE;
        }

        int reachableFrom(int bench) {
            int reached = 1 << bench;
            for (int steps = 1; steps < BENCHES; steps++) {
                reached |= neighboursOf(reached);
            }
            return reached;
        }

        boolean hasCushion(int bench) {
            return has(cushions, bench);
        }

        int benchOf(int one) {
            return stands.at(one);
        }

        int placeOf(int memory) {
            return places.at(memory);
        }

        int heldBy(int one) {
            return memoryAt(one);
        }

        int lyingOn(int bench) {
            return memoryAt(ON_BENCH + bench);
        }

        /** Who has none, or where none lies: NONE. A one's place is his own number. */
        private int memoryAt(int place) {
            for (int memory = 0; memory < MEMORIES; memory++) {
                if (places.at(memory) == place) {
                    return memory;
                }
            }
            return NONE;
        }

        int freshOn(int bench) {
            int memory = lyingOn(bench);
            return memory == NONE ? NONE : freshness.at(memory);
        }

        void standAt(int one, int bench) {
            stands.put(one, bench);
        }

        void putWith(int memory, int one) {
            places.put(memory, one);
        }

        /** NONE can be told too: then nothing changes. */
        void makeNowhere(int memory) {
            places.put(memory, NONE);
        }

        void putOn(int memory, int bench, int fresh) {
            places.put(memory, ON_BENCH + bench);
            freshness.put(memory, fresh);
        }

        int countNowhere() {
            int count = 0;
            for (int memory = 0; memory < MEMORIES; memory++) {
                count += places.at(memory) == NONE ? 1 : 0;
            }
            return count;
        }

        int countOnBenches() {
            int count = 0;
            for (int memory = 0; memory < MEMORIES; memory++) {
                count += places.at(memory) >= ON_BENCH ? 1 : 0;
            }
            return count;
        }

        /** The least reason why an act can not be, or ALLOWED; target is a bench or another one. */
        int whyNot(int act, int one, int target) {
            switch (act) {
                case GO: return has(ways.at(benchOf(one)), target) ? ALLOWED : NO_WAY;
                case SIT: return whyNotSit(one);
                case CHANGE: return whyNotChange(one, target);
                case CONFESS: return memoryAt(one) == NONE ? NOTHING : ALLOWED;
                case EVENING: return day >= LAST_DAY ? NO_MORE_DAYS : ALLOWED;
                default: return ALLOWED;
            }
        }

        private int whyNotSit(int one) {
            int bench = benchOf(one);
            if (hasCushion(bench)) {
                return CUSHIONED;
            }
            return memoryAt(one) == NONE && memoryAt(ON_BENCH + bench) == NONE ? NOTHING : ALLOWED;
        }

        private int whyNotChange(int one, int other) {
            if (memoryAt(one) == NONE && memoryAt(other) == NONE) {
                return NOTHING;
            }
            return one == other || benchOf(one) != benchOf(other) ? NOT_TOGETHER : ALLOWED;
        }

        /** Does an act that can be. */
        void carryOut(int act, int one, int target) {
            switch (act) {
                case GO: standAt(one, target); break;
                case SIT: sitDown(one); break;
                case CHANGE: swap(one, target); break;
                case CONFESS: makeNowhere(memoryAt(one)); break;
                case CUSHION: cushions ^= 1 << target; break;
                case EVENING: endDay(); break;
                default: break;
            }
        }

        private void sitDown(int one) {
            int bench = benchOf(one);
            int left = memoryAt(one);
            int got = memoryAt(ON_BENCH + bench);
            if (left != NONE) {
                putOn(left, bench, FRESHEST);
            }
            if (got != NONE) {
                putWith(got, one);
            }
        }

        private void swap(int one, int other) {
            int mine = memoryAt(one);
            int theirs = memoryAt(other);
            if (mine != NONE) {
                putWith(mine, other);
            }
            if (theirs != NONE) {
                putWith(theirs, one);
            }
        }

        private void endDay() {
            day++;
            for (int memory = 0; memory < MEMORIES; memory++) {
                if (places.at(memory) >= ON_BENCH) {
                    int fresh = freshness.at(memory) - 1;
                    freshness.put(memory, fresh);
                    places.put(memory, fresh > 0 ? places.at(memory) : NONE);
                }
            }
        }

        void addSight(int sittings, int k, boolean had) {
            sights.put(sightCount, (sittings * MOST_SITTERS + k) * 2 + (had ? 1 : 0));
            sightCount++;
        }

        void dropSights() {
            sightCount = 0;
        }

        /** Whether all sights are so, if n sat by turns and the first had it. */
        boolean allSeenSo(int n, int first) {
            for (int i = 0; i < sightCount; i++) {
                int sight = sights.at(i);
                int k = sight / 2 % MOST_SITTERS;
                boolean had = sight % 2 == 1;
                int holder = Suspects.holder(n, first, sight / 2 / MOST_SITTERS);
                if (had != (holder == k)) {
                    return false;
                }
            }
            return true;
        }
    }

    /** The text of days, read sign by sign by what must come next. */
    private static final class Pad {
        private static final int ACT = 0, DEED = 1, BENCH = 2, PARTNER = 3;

        private final Row signs = new Row(SIGNS);
        private int count;

        void append(int sign) {
            signs.put(count, sign);
            count++;
        }

        void empty() {
            count = 0;
        }

        int firstFault() {
            int due = ACT;
            for (int i = 0; i < count; i++) {
                due = dueBehind(due, signs.at(i));
                if (due == NONE) {
                    return i;
                }
            }
            return due == ACT ? NONE : count;
        }

        /** What must come behind a sign; NONE: the sign can not stand there. */
        static int dueBehind(int due, int sign) {
            switch (due) {
                case ACT: return dueBehindStart(sign);
                case DEED: return dueBehindDeed(sign);
                case BENCH: return isBench(sign - '0') ? ACT : NONE;
                case PARTNER: return isOne(sign - 'A') ? ACT : NONE;
                default: return NONE;
            }
        }

        private static int dueBehindStart(int sign) {
            if (isOne(sign - 'A')) {
                return DEED;
            }
            switch (sign) {
                case '#': return BENCH;
                case '.': return ACT;
                default: return NONE;
            }
        }

        private static int dueBehindDeed(int sign) {
            if (sign == 'x') {
                return PARTNER;
            }
            return isBench(sign - '0') || sign == '_' || sign == '!' ? ACT : NONE;
        }

        /** The act that ends with a sign that stood where this was due. */
        static int actEndedBy(int due, int sign) {
            switch (sign) {
                case '_': return SIT;
                case '!': return CONFESS;
                case '.': return EVENING;
                default: break;
            }
            switch (due) {
                case BENCH: return CUSHION;
                case PARTNER: return CHANGE;
                default: return GO;
            }
        }

        static int targetOf(int sign) {
            return isOne(sign - 'A') ? sign - 'A' : sign - '0';
        }
    }

    /** Days and seasons as they would go, on a copy of the garden. */
    private static final class Course {
        private final Garden trial = new Garden();
        private final Row handsOf = new Row(MEMORIES);
        private int acts;
        private int sittings;
        private int failed;
        private int reason;

        /** Tries the days out, up to the first act that can not be: NO, STATE, or ALLOWED. */
        int tryOut(Garden garden, Pad pad) {
            if (pad == null || pad.firstFault() != NONE) {
                return NO;
            }
            begin(garden);
            int due = Pad.ACT;
            int one = 0;
            for (int i = 0; i < pad.count && failed == NONE; i++) {
                int sign = pad.signs.at(i);
                if (due == Pad.ACT && isOne(sign - 'A')) {
                    one = sign - 'A';
                }
                int next = Pad.dueBehind(due, sign);
                if (next == Pad.ACT) {
                    tryAct(Pad.actEndedBy(due, sign), one, Pad.targetOf(sign));
                }
                due = next;
            }
            return failed == NONE ? ALLOWED : STATE;
        }

        private void begin(Garden garden) {
            trial.copyFrom(garden);
            handsOf.fillWith(0);
            acts = 0;
            sittings = 0;
            failed = NONE;
            reason = NONE;
        }

        private void tryAct(int act, int one, int target) {
            int why = trial.whyNot(act, one, target);
            if (why != ALLOWED) {
                failed = acts;
                reason = why;
                return;
            }
            trial.carryOut(act, one, target);
            acts++;
            if (act == SIT) {
                sittings++;
                countHand(trial.heldBy(one));
            }
            if (act == CHANGE) {
                countHand(trial.heldBy(one));
                countHand(trial.heldBy(target));
            }
        }

        private void countHand(int memory) {
            // who came to remember nothing has NONE, for which the row has no cell
            handsOf.put(memory, handsOf.at(memory) + 1);
        }

        int mostHanded() {
            int best = NONE;
            int hands = 0;
            for (int memory = 0; memory < MEMORIES; memory++) {
                if (handsOf.at(memory) > hands) {
                    best = memory;
                    hands = handsOf.at(memory);
                }
            }
            return best;
        }

        void drift(Garden garden, int seed, int draws) {
            begin(garden);
            int x = seed;
            for (int i = 0; i < draws; i++) {
                x = (75 * x + 74) % 65537;
                drawAct(x % 8, x / 8 % 8, x / 64);
            }
        }

        private void drawAct(int one, int lot, int z) {
            if (lot == 6 && z % 8 != 0) {
                return;
            }
            int act = actByLot(lot);
            int target = act == GO ? z % 10 : z % 8;
            if (trial.whyNot(act, one, target) == ALLOWED) {
                trial.carryOut(act, one, target);
            }
        }

        private static int actByLot(int lot) {
            switch (lot) {
                case 3: case 4: return SIT;
                case 5: return CHANGE;
                case 6: return CONFESS;
                case 7: return EVENING;
                default: return GO;
            }
        }
    }

    /** The shortest round by the benches of a set, grown from the sets with one bench less. */
    private static final class Rounds {
        private static final int MOST_STOPS = BENCHES - 1, HOME = MOST_STOPS;
        private static final int FAR = 1000000;

        private final Row stops = new Row(BENCHES);
        private final Row legs = new Row(BENCHES * BENCHES);
        private final Row costs = new Row((1 << MOST_STOPS) * MOST_STOPS);
        private int count;

        int shortest(Garden garden, int bench, int set) {
            if (garden == null) {
                return NONE;
            }
            gatherStops(bench, set);
            if (count == 0) {
                return 0;
            }
            if ((set & ~garden.reachableFrom(bench)) != 0) {
                return NONE;
            }
            measureLegs(garden);
            int all = (1 << count) - 1;
            for (int visited = 1; visited <= all; visited++) {
                for (int last = 0; last < count; last++) {
                    if (has(visited, last)) {
                        costs.put(visited * MOST_STOPS + last, cheapest(visited & ~(1 << last), last));
                    }
                }
            }
            return cheapest(all, HOME);
        }

        private void gatherStops(int bench, int set) {
            count = 0;
            for (int stop = 0; stop < BENCHES; stop++) {
                if (stop != bench && has(set, stop)) {
                    stops.put(count, stop);
                    count++;
                }
            }
            stops.put(HOME, bench);
        }

        private void measureLegs(Garden garden) {
            for (int from = 0; from < BENCHES; from++) {
                for (int to = 0; to < BENCHES; to++) {
                    boolean used = (from < count || from == HOME) && (to < count || to == HOME);
                    if (used) {
                        legs.put(from * BENCHES + to, garden.stepsBetween(stops.at(from), stops.at(to)));
                    }
                }
            }
        }

        /** The fewest steps from home by all of a set of stops to one more. */
        private int cheapest(int visited, int next) {
            if (visited == 0) {
                return legs.at(HOME * BENCHES + next);
            }
            int best = FAR;
            for (int last = 0; last < count; last++) {
                if (has(visited, last)) {
                    int cost = costs.at(visited * MOST_STOPS + last) + legs.at(last * BENCHES + next);
                    best = Math.min(best, cost);
                }
            }
            return best;
        }
    }

    /** The longest walks that pass no bench twice. */
    private static final class Walks {
        private static final int SETS = 1 << BENCHES;

        /** For each set of benches those of it (bits) from which a walk by just that set begins. */
        private final Row starts = new Row(SETS);
        private int reachable;

        void explore(Garden garden, int bench) {
            if (garden == null) {
                return;
            }
            reachable = garden.reachableFrom(bench);
            for (int set = 1; set < SETS; set++) {
                if ((set & ~reachable) == 0) {
                    starts.put(set, startsOf(garden, set));
                }
            }
        }

        private int startsOf(Garden garden, int set) {
            int found = 0;
            for (int bench = 0; bench < BENCHES; bench++) {
                if (has(set, bench)) {
                    int rest = set & ~(1 << bench);
                    boolean goesOn = rest == 0 || (starts.at(rest) & garden.waysFrom(bench)) != 0;
                    found |= goesOn ? 1 << bench : 0;
                }
            }
            return found;
        }

        int longestFrom(int bench) {
            int most = 1;
            for (int set = reachable; set > 0; set = (set - 1) & reachable) {
                if (has(starts.at(set), bench)) {
                    most = Math.max(most, Integer.bitCount(set));
                }
            }
            return most - 1;
        }

        /** The first walk of so many steps, a digit for each bench. */
        int firstFrom(Garden garden, int bench, int steps) {
            int number = 0;
            int at = bench;
            int free = reachable;
            for (int left = steps; left > 0 && garden != null; left--) {
                free &= ~(1 << at);
                int next = garden.waysFrom(at) & startsOfWalks(free, left);
                at = Integer.numberOfTrailingZeros(next);
                number = number * 10 + at;
            }
            return number;
        }

        /** Where walks by so many of the free benches begin. */
        private int startsOfWalks(int free, int benches) {
            int found = 0;
            for (int set = free; set > 0; set = (set - 1) & free) {
                if (Integer.bitCount(set) == benches) {
                    found |= starts.at(set);
                }
            }
            return found;
        }
    }

    /** Seven memories, in the head (0) and on six benches, that he sets right by sitting. */
    private static final class Order {
        private static final int PLACES = 7;

        private final Row memories = new Row(PLACES);

        /** Whether the number is a row of the digits 0 to 6, each once. */
        boolean read(int row) {
            if (row < 0) {
                return false;
            }
            int rest = row;
            int found = 0;
            for (int place = PLACES - 1; place >= 0; place--) {
                memories.put(place, rest % 10);
                found |= 1 << rest % 10;
                rest /= 10;
            }
            return rest == 0 && found == (1 << PLACES) - 1;
        }

        /** A ring of misplaced memories takes a sitting each, and he must enter and leave it. */
        int sittingsLeft() {
            int left = 0;
            int met = 0;
            for (int place = 0; place < PLACES; place++) {
                int length = 0;
                int at = place;
                for (int i = 0; i < PLACES && !has(met, at); i++) {
                    met |= 1 << at;
                    at = memories.at(at);
                    length++;
                }
                if (length > 1) {
                    // the ring of the head itself he need not enter
                    left += place == 0 ? length - 1 : length + 1;
                }
            }
            return left;
        }

        int firstSitting() {
            int now = sittingsLeft();
            for (int bench = 1; bench < PLACES; bench++) {
                swapWith(bench);
                int then = sittingsLeft();
                swapWith(bench);
                if (then < now) {
                    return bench;
                }
            }
            return NONE;
        }

        private void swapWith(int bench) {
            int kept = memories.at(0);
            memories.put(0, memories.at(bench));
            memories.put(bench, kept);
        }
    }

    /** Who may have had the yellow room first, and what would tell most. */
    private static final class Suspects {
        private static final int PAIRS = 35;

        private final Row codes = new Row(PAIRS);
        private final Row holders = new Row(MOST_SITTERS);
        private int count;
        private int question;
        private int mostLeft;

        void sift(Garden garden) {
            count = 0;
            for (int n = LEAST_SITTERS; n <= MOST_SITTERS; n++) {
                for (int first = 0; first < n; first++) {
                    if (garden != null && garden.allSeenSo(n, first)) {
                        codes.put(count, 10 * n + first);
                        count++;
                    }
                }
            }
        }

        /** Who has it behind so many sittings; NONE: it lies on the bench. */
        static int holder(int n, int first, int sittings) {
            if (n < LEAST_SITTERS || sittings <= first) {
                return first;
            }
            // once left it is got by the next, who leaves it n sittings later: n and 1 for each hand
            int since = sittings - first - 1;
            return since % (n + 1) == 0 ? NONE : (first + 1 + since / (n + 1)) % n;
        }

        void chooseQuestion() {
            question = NONE;
            mostLeft = PAIRS + 1;
            for (int sittings = 0; sittings <= LAST_SITTING; sittings++) {
                countHolders(sittings);
                for (int k = 0; k < MOST_SITTERS; k++) {
                    int left = Math.max(holders.at(k), count - holders.at(k));
                    if (left < mostLeft) {
                        mostLeft = left;
                        question = 10 * sittings + k;
                    }
                }
            }
        }

        private void countHolders(int sittings) {
            holders.fillWith(0);
            for (int i = 0; i < count; i++) {
                // on the bench it is NONE's, for whom the row has no cell
                int holder = holder(codes.at(i) / 10, codes.at(i) % 10, sittings);
                holders.put(holder, holders.at(holder) + 1);
            }
        }
    }

    /** Benches taken by turns: the worth of each free row, by which rows that fall apart add up. */
    private static final class Turns {
        private final Row worths = new Row(LONGEST_ROW + 1);

        Turns() {
            for (int n = 1; n <= LONGEST_ROW; n++) {
                long met = 0;
                for (int bench = 0; bench < n; bench++) {
                    met |= 1L << worthBehind(n, bench);
                }
                worths.put(n, Long.numberOfTrailingZeros(~met));
            }
        }

        private int worthBehind(int n, int bench) {
            return worths.at(Math.max(0, bench - 1)) ^ worths.at(Math.max(0, n - bench - 2));
        }

        int winningBench(int n) {
            for (int bench = 0; bench < n; bench++) {
                if (worthBehind(n, bench) == 0) {
                    return bench;
                }
            }
            return NONE;
        }
    }
}
