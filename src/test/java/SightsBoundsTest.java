import java.util.function.Consumer;

/** The bounds of promises 21 to 30: sights, turns, evenings, seasons, images, what is told. */
public final class SightsBoundsTest {
    private static final int MIN = Integer.MIN_VALUE, MAX = Integer.MAX_VALUE;
    private static final int OUTSIDE = -2, STATE = -3, FULL = -4, NONE = -6;
    private static final long GONE = -1000000000000000000L;

    private static final Bounds b = new Bounds("SightsBoundsTest");

    public static void main(String[] args) {
        seen();
        seenRefused();
        cleared();
        fitting();
        whoHasIt();
        asked();
        taken();
        evenings();
        eveningsRefused();
        seasons();
        seasonRefused();
        imagesKept();
        imagesRefused();
        told();
        toldRefused();
        b.end();
    }

    private static void seen() {
        b.test("21 'so many sittings (0 to 60)', 'k (0 to 7)': the least and the greatest", () -> {
            BenchMemories x = new BenchMemories();
            b.is("seen(0, 0, true)", x.seen(0, 0, true), 1);
            b.is("seen(60, 7, false)", x.seen(60, 7, false), 2);
            b.is("seen(0, 7, false)", x.seen(0, 7, false), 3);
            b.is("seen(60, 0, true)", x.seen(60, 0, true), 4);
        });
        b.test("21 'how many': up to eight, the same again and what can not be counted too", () -> {
            BenchMemories x = new BenchMemories();
            for (int count = 1; count <= 8; count++) {
                b.is("sight " + count, x.seen(0, 0, count % 2 == 0), count);
            }
            b.is("sights", x.told(3), 8);
        });
        b.test("21 the eighth SIGHT counts, the ninth is none", () -> {
            BenchMemories x = new BenchMemories();
            for (int k = 0; k < 7; k++) {
                x.seen(0, k, false);
            }
            b.is("f is 7", x.fits(0), 87);
            b.is("eighth", x.seen(0, 7, false), 8);
            b.is("nobody", x.fits(-1), 0);
            x.clear();
            for (int count = 0; count < 8; count++) {
                x.seen(0, 0, false);
            }
            b.is("ninth", x.seen(0, 7, false), FULL);
            b.is("it is none", x.fits(-1), 28);
        });
        b.test("21 room again when SIGHTS are gone", () -> {
            BenchMemories x = Gardens.full();
            b.is("full", x.seen(0, 0, true), FULL);
            x.clear();
            b.is("first", x.seen(0, 0, true), 1);
        });
    }

    private static void seenRefused() {
        b.test("21 'OUTSIDE: sittings', before FULL", () -> {
            for (int sittings : new int[] {-1, 61, 64, MIN, MAX}) {
                b.refused("seen(" + sittings + ", 0, true)", x -> x.seen(sittings, 0, true), OUTSIDE);
                b.refused("seen(" + sittings + ", 7, false)", x -> x.seen(sittings, 7, false), OUTSIDE);
            }
        });
        b.test("21 'OUTSIDE: .. k', before FULL", () -> {
            for (int k : new int[] {-1, 8, 32, MIN, MAX}) {
                b.refused("seen(0, " + k + ", true)", x -> x.seen(0, k, true), OUTSIDE);
                b.refused("seen(60, " + k + ", false)", x -> x.seen(60, k, false), OUTSIDE);
            }
            b.refused("seen(MAX, MIN, true)", x -> x.seen(MAX, MIN, true), OUTSIDE);
        });
        b.test("21 'FULL'", () -> {
            for (int sittings : new int[] {0, 60}) {
                for (int k : new int[] {0, 7}) {
                    BenchMemories x = Gardens.full();
                    b.is("seen", x.seen(sittings, k, true), FULL);
                    b.is("seen not", x.seen(sittings, k, false), FULL);
                    b.same("nothing is changed", Picture.now(x), Picture.now(Gardens.full()));
                }
            }
        });
    }

    private static void cleared() {
        b.test("22 'SIGHTS go: how many there were': none, one, eight", () -> {
            BenchMemories x = new BenchMemories();
            b.is("none", x.clear(), 0);
            x.seen(0, 0, true);
            b.is("one", x.clear(), 1);
            for (int count = 0; count < 8; count++) {
                x.seen(0, 0, true);
            }
            b.is("eight", x.clear(), 8);
            b.is("sights", x.told(3), 0);
            b.is("all fit", x.fits(-1), 35);
            b.is("none again", x.clear(), 0);
        });
        b.test("22 nothing but the SIGHTS goes, and no image's", () -> {
            BenchMemories x = Gardens.full();
            x.clear();
            for (int sight = 0; sight < 8; sight++) {
                x.seen(60 - sight, 7 - sight, false);
            }
            b.same("all", Picture.now(x), Picture.now(Gardens.full()));
            BenchMemories y = Gardens.full();
            y.clear();
            b.same("images", Picture.images(y), Picture.images(Gardens.full()));
        });
    }

    private static void fitting() {
        b.test("23 no SIGHT: 'n (2 to 8)', f from 0 to n less 1, '(rising)'", () -> {
            BenchMemories x = new BenchMemories();
            b.is("how many", x.fits(-1), 35);
            int i = 0;
            for (int n = 2; n <= 8; n++) {
                for (int f = 0; f < n; f++) {
                    b.is("the " + i + ".", x.fits(i), 10 * n + f);
                    i++;
                }
            }
        });
        b.test("23 'NONE': above the last", () -> {
            BenchMemories x = new BenchMemories();
            b.is("last of all", x.fits(34), 87);
            for (int i : new int[] {35, 36, 100, MAX}) {
                b.is("fits(" + i + ")", x.fits(i), NONE);
            }
            x.seen(0, 7, true);
            b.is("how many", x.fits(-1), 1);
            b.is("the one", x.fits(0), 87);
            b.is("above it", x.fits(1), NONE);
            b.is("what was one before", x.fits(34), NONE);
        });
        b.test("23 'NONE (i below -1, too)'", () -> {
            BenchMemories x = new BenchMemories();
            for (int i : new int[] {-2, -3, -35, MIN}) {
                b.is("fits(" + i + ")", x.fits(i), NONE);
            }
        });
        b.test("23 nobody fits: how many is 0, the first is NONE", () -> {
            BenchMemories x = new BenchMemories();
            x.seen(0, 0, true);
            x.seen(0, 0, false);
            b.is("how many", x.fits(-1), 0);
            b.is("the first", x.fits(0), NONE);
            b.is("below", x.fits(-2), NONE);
        });
        b.test("23 'all SIGHTS are so': in whatever order, the same twice as once", () -> {
            BenchMemories x = new BenchMemories();
            BenchMemories y = new BenchMemories();
            x.seen(9, 3, true);
            x.seen(0, 1, true);
            y.seen(0, 1, true);
            y.seen(9, 3, true);
            y.seen(0, 1, true);
            b.same("all", Picture.images(x), Picture.images(y));
            for (int i = -1; i < 35; i++) {
                b.is("fits(" + i + ")", x.fits(i), y.fits(i));
            }
        });
        b.test("23 nothing is changed by asking", () -> b.changesNothing("fits(0)", x -> x.fits(0)));
    }

    /** Of n and f: who has it behind so many sittings, NONE: it lies on the bench. */
    private static void has(int n, int f, int sittings, int who) {
        for (int k = 0; k <= 7; k++) {
            BenchMemories x = new BenchMemories();
            x.seen(sittings, k, true);
            BenchMemories y = new BenchMemories();
            y.seen(sittings, k, false);
            String of = n + " and " + f + " behind " + sittings + ", " + k;
            b.is(of + " had it", found(x, 10 * n + f), k == who ? 1 : 0);
            b.is(of + " had it not", found(y, 10 * n + f), k == who ? 0 : 1);
        }
    }

    private static int found(BenchMemories x, int code) {
        int times = 0;
        for (int i = 0; i < x.fits(-1); i++) {
            times += x.fits(i) == code ? 1 : 0;
        }
        return times;
    }

    private static void whoHasIt() {
        b.test("23 behind no sittings it is with f", () -> {
            has(2, 0, 0, 0);
            has(2, 1, 0, 1);
            has(8, 0, 0, 0);
            has(8, 7, 0, 7);
        });
        b.test("23 '0 first, then 1': he leaves it, the next gets it", () -> {
            has(2, 0, 1, NONE);
            has(2, 0, 2, 1);
            has(2, 1, 1, 1);
            has(8, 0, 1, NONE);
            has(8, 0, 2, 1);
            has(8, 6, 6, 6);
            has(8, 6, 7, NONE);
            has(8, 6, 8, 7);
        });
        b.test("23 'round and round': behind the last it is 0 who sits down", () -> {
            has(2, 1, 2, NONE);
            has(2, 1, 3, 0);
            has(8, 7, 7, 7);
            has(8, 7, 8, NONE);
            has(8, 7, 9, 0);
            has(8, 7, 16, 0);
            has(8, 7, 17, NONE);
            has(8, 7, 18, 1);
        });
        b.test("23 who has it keeps it until he sits again", () -> {
            has(2, 0, 3, 1);
            has(2, 0, 4, NONE);
            has(2, 0, 5, 0);
            has(2, 0, 6, 0);
            has(2, 0, 7, NONE);
            has(8, 0, 9, 1);
            has(8, 0, 10, NONE);
            has(8, 0, 11, 2);
        });
        b.test("23 behind sixty sittings, the most", () -> {
            has(2, 0, 58, NONE);
            has(2, 0, 59, 0);
            has(2, 0, 60, 0);
            has(2, 1, 60, 1);
            has(8, 0, 55, NONE);
            has(8, 0, 56, 7);
            has(8, 0, 60, 7);
            has(8, 4, 59, NONE);
            has(8, 5, 60, NONE);
            has(8, 4, 60, 3);
        });
        b.test("23 a k who is not among the n has it not", () -> {
            BenchMemories x = new BenchMemories();
            x.seen(0, 7, false);
            b.is("all but 87", x.fits(-1), 34);
            x.clear();
            x.seen(0, 2, true);
            b.is("of two there is no 2", x.fits(0), 32);
        });
    }

    private static void asked() {
        b.test("24 no SIGHT, all fit: the least question of all", () -> {
            BenchMemories x = new BenchMemories();
            b.is("what", x.ask(0), 0);
            b.is("how many", x.ask(1), 28);
        });
        b.test("24 one fits: the least question, and he is left", () -> {
            BenchMemories x = new BenchMemories();
            x.seen(0, 7, true);
            b.is("what", x.ask(0), 0);
            b.is("how many", x.ask(1), 1);
        });
        b.test("24 two fit, and can be told apart at once: one is left", () -> {
            BenchMemories x = new BenchMemories();
            x.seen(0, 6, true);
            b.is("76 and 86", x.fits(-1), 2);
            b.is("how many", x.ask(1), 1);
            // behind 7 it lies on the bench; then of seven 0 has it, and of eight 7
            b.is("what", x.ask(0), 80);
        });
        b.test("24 'the least' of questions as good: not the sittings before", () -> {
            BenchMemories x = new BenchMemories();
            x.seen(0, 0, true);
            b.is("what", x.ask(0), 61);
            b.is("how many", x.ask(1), 4);
        });
        b.test("24 behind sixty sittings, the last that can be asked about", () -> {
            BenchMemories x = new BenchMemories();
            x.seen(48, 5, false);
            x.seen(50, 2, false);
            b.is("what", x.ask(0), 601);
            b.is("how many", x.ask(1), 20);
        });
        b.test("24 'NONE: nothing fits'", () -> {
            BenchMemories x = new BenchMemories();
            x.seen(1, 0, true);
            x.seen(1, 0, false);
            b.is("what", x.ask(0), NONE);
            b.is("how many", x.ask(1), NONE);
            x.clear();
            b.is("all again", x.ask(0), 0);
        });
        b.test("24 'OUTSIDE', before NONE", () -> {
            for (int what : Bounds.NO_BIT) {
                b.refused("ask(" + what + ")", x -> x.ask(what), OUTSIDE);
                BenchMemories none = new BenchMemories();
                none.seen(1, 0, true);
                none.seen(0, 0, true);
                b.is("nothing fits, ask(" + what + ")", none.ask(what), OUTSIDE);
            }
        });
        b.test("24 nothing is changed by asking", () -> b.changesNothing("ask(0)", x -> x.ask(0)));
    }

    private static void taken() {
        b.test("25 a row of none: 'who can not has lost'", () -> {
            b.is("whether", new BenchMemories().take(0, 0), 0);
            b.is("which", new BenchMemories().take(0, 1), NONE);
        });
        b.test("25 a row of one to six: the least that wins", () -> {
            int[] first = {0, 0, 1, NONE, 2, 0};
            BenchMemories x = new BenchMemories();
            for (int n = 1; n <= 6; n++) {
                b.is("which of " + n, x.take(n, 1), first[n - 1]);
                b.is("whether of " + n, x.take(n, 0), first[n - 1] == NONE ? 0 : 1);
            }
        });
        b.test("25 all rows that are lost, up to the longest", () -> {
            BenchMemories x = new BenchMemories();
            String lost = " 0 4 8 14 20 24 28 34 38 ";
            for (int n = 0; n <= 40; n++) {
                boolean isLost = lost.contains(" " + n + " ");
                b.is("whether of " + n, x.take(n, 0), isLost ? 0 : 1);
                b.is("which of " + n + " is none", x.take(n, 1) == NONE ? 1 : 0, isLost ? 1 : 0);
            }
        });
        b.test("25 '(0 to 40)': the longest", () -> {
            b.is("whether", new BenchMemories().take(40, 0), 1);
            b.is("which", new BenchMemories().take(40, 1), 0);
        });
        b.test("25 'OUTSIDE': n", () -> {
            for (int n : new int[] {-1, 41, 64, MIN, MAX}) {
                b.refused("take(" + n + ", 0)", x -> x.take(n, 0), OUTSIDE);
                b.refused("take(" + n + ", 1)", x -> x.take(n, 1), OUTSIDE);
            }
        });
        b.test("25 'OUTSIDE': what", () -> {
            for (int what : Bounds.NO_BIT) {
                b.refused("take(0, " + what + ")", x -> x.take(0, what), OUTSIDE);
                b.refused("take(40, " + what + ")", x -> x.take(40, what), OUTSIDE);
            }
            b.refused("take(MAX, MIN)", x -> x.take(MAX, MIN), OUTSIDE);
        });
        b.test("25 nothing is changed by asking", () -> b.changesNothing("take(40, 1)", x -> x.take(40, 1)));
    }

    private static void fraction(int m, int n, int what, long upper, long lower) {
        BenchMemories x = new BenchMemories();
        b.is("upper of " + m + ", " + n + ", " + what, x.evenings(m, n, what, 0), upper);
        b.is("lower of " + m + ", " + n + ", " + what, x.evenings(m, n, what, 1), lower);
    }

    private static void evenings() {
        b.test("26 no evening: never, on none, in lowest terms", () -> {
            for (int n = 1; n <= 10; n++) {
                fraction(0, n, 0, 0, 1);
                fraction(0, n, 1, 0, 1);
            }
        });
        b.test("26 one evening: on one of n, on one in the mean", () -> {
            for (int n = 1; n <= 10; n++) {
                fraction(1, n, 0, 1, n);
                fraction(1, n, 1, 1, 1);
            }
        });
        b.test("26 one bench: surely, as soon as there is an evening", () -> {
            for (int m = 1; m <= 12; m++) {
                fraction(m, 1, 0, 1, 1);
                fraction(m, 1, 1, 1, 1);
            }
        });
        b.test("26 'm evenings (0 to 12)', 'n benches (1 to 10)': the greatest", () -> {
            fraction(12, 10, 0, 717570463519L, 1000000000000L);
            fraction(12, 10, 1, 717570463519L, 100000000000L);
            fraction(12, 2, 0, 4095, 4096);
            fraction(12, 2, 1, 4095, 2048);
            fraction(12, 9, 0, 213710059745L, 282429536481L);
            fraction(12, 9, 1, 213710059745L, 31381059609L);
            fraction(2, 10, 0, 19, 100);
            fraction(2, 10, 1, 19, 10);
        });
    }

    private static void eveningsRefused() {
        b.test("26 'GONE and the refusal': m", () -> {
            for (int m : new int[] {-1, 13, 32, MIN, MAX}) {
                b.refused("evenings(" + m + ", 1, 0, 0)", x -> x.evenings(m, 1, 0, 0), GONE + OUTSIDE);
                b.refused("evenings(" + m + ", 10, 1, 1)", x -> x.evenings(m, 10, 1, 1), GONE + OUTSIDE);
            }
        });
        b.test("26 'GONE and the refusal': n", () -> {
            for (int n : new int[] {-1, 0, 11, 32, MIN, MAX}) {
                b.refused("evenings(0, " + n + ", 0, 0)", x -> x.evenings(0, n, 0, 0), GONE + OUTSIDE);
                b.refused("evenings(12, " + n + ", 1, 1)", x -> x.evenings(12, n, 1, 1), GONE + OUTSIDE);
            }
        });
        b.test("26 'GONE and the refusal': what", () -> {
            for (int what : Bounds.NO_BIT) {
                b.refused("evenings(0, 1, " + what + ", 0)", x -> x.evenings(0, 1, what, 0), GONE + OUTSIDE);
                b.refused("evenings(12, 10, " + what + ", 1)", x -> x.evenings(12, 10, what, 1), GONE + OUTSIDE);
            }
        });
        b.test("26 'GONE and the refusal': part", () -> {
            for (int part : Bounds.NO_BIT) {
                b.refused("evenings(0, 1, 0, " + part + ")", x -> x.evenings(0, 1, 0, part), GONE + OUTSIDE);
                b.refused("evenings(12, 10, 1, " + part + ")", x -> x.evenings(12, 10, 1, part), GONE + OUTSIDE);
            }
            b.refused("evenings(MIN, MAX, MIN, MAX)", x -> x.evenings(MIN, MAX, MIN, MAX), GONE + OUTSIDE);
        });
        b.test("26 GONE and OUTSIDE as one number", () ->
                b.is("evenings(13, 1, 0, 0)", new BenchMemories().evenings(13, 1, 0, 0), -1000000000000000002L));
        b.test("26 nothing is changed by asking", () ->
                b.changesNothing("evenings(12, 10, 1, 0)", x -> x.evenings(12, 10, 1, 0)));
    }

    private static void season(BenchMemories x, int seed, int m, int nowhere, int lying, int day) {
        b.is("nowhere by " + seed + " and " + m, x.season(seed, m, 0), nowhere);
        b.is("on benches by " + seed + " and " + m, x.season(seed, m, 1), lying);
        b.is("the day by " + seed + " and " + m, x.season(seed, m, 2), day);
    }

    private static void seasons() {
        b.test("27 'm ACTS (1 to 99)': one, and not the seed itself is the first x", () -> {
            // 0 becomes 74: C, lot 1, no way; 2 becomes 224: A sits down
            season(new BenchMemories(), 0, 1, 4, 0, 0);
            season(new BenchMemories(), 2, 1, 4, 1, 0);
        });
        b.test("27 'left over by 65537': the first seed that goes round, and the last that does not", () -> {
            // 872 becomes 65474: C, lot 0, no way; 873 becomes 65549 less 65537, 12: E, lot 1, no way,
            // then 974: G, lot 1, no way, 7587: D, lot 4, he sits
            season(new BenchMemories(), 872, 1, 4, 0, 0);
            season(new BenchMemories(), 873, 2, 4, 0, 0);
            season(new BenchMemories(), 873, 3, 4, 1, 0);
        });
        b.test("27 'a seed (0 to 9999)': the greatest, and as many ACTS as there can be", () -> {
            // 9999 becomes 749999 less 11 times 65537, 29092: E, lot 4, he sits
            season(new BenchMemories(), 9999, 1, 4, 1, 0);
            asTheModel(0, 99);
            asTheModel(9999, 98);
            asTheModel(9999, 99);
        });
        b.test("27 '5 he changes with ONE z left over by 8'", () -> {
            // 8952 becomes 16104: A, lot 5, z 251, so D; then 28208: A, lot 6, z 440: he confesses
            BenchMemories x = new BenchMemories();
            x.forget(0);
            season(x, 8952, 2, 5, 0, 0);
            x.stand(0, 3);
            season(x, 8952, 2, 6, 0, 0);
            season(x, 8952, 1, 5, 0, 0);
        });
        b.test("27 '0, 1, 2 he goes to BENCH z left over by 10'", () -> {
            // 302 becomes 22724: E, lot 0, z 355; then 412: E, lot 3, he sits
            BenchMemories x = new BenchMemories();
            x.forget(4);
            x.lay(8, 5, 9);
            season(x, 302, 2, 4, 1, 0);
            x.way(4, 5, true);
            season(x, 302, 2, 4, 0, 0);
        });
        b.test("27 '6 he confesses, if z left over by 8 is 0'", () -> {
            // 27 becomes 2099: D, lot 6, z 32; 21 becomes 1649: B, lot 6, z 25
            season(new BenchMemories(), 27, 1, 5, 0, 0);
            season(new BenchMemories(), 21, 1, 4, 0, 0);
        });
        b.test("27 '7 an evening': no more behind day 99, and what lies on BENCHES stays FRESH", () -> {
            // 0 becomes 74, then 5624: A, lot 7
            season(new BenchMemories(), 0, 2, 4, 0, 1);
            season(Gardens.days(new BenchMemories(), 98), 0, 2, 4, 0, 99);
            BenchMemories x = Gardens.days(new BenchMemories(), 99);
            x.lay(8, 9, 1);
            season(x, 0, 2, 3, 1, 99);
        });
        b.test("27 'each if that can be': a CUSHION, nothing to be left, nothing to be confessed", () -> {
            BenchMemories x = Gardens.saying("#0");
            x.done();
            season(x, 2, 1, 4, 0, 0);
            BenchMemories y = new BenchMemories();
            y.forget(0);
            season(y, 2, 1, 5, 0, 0);
            y.forget(3);
            season(y, 27, 1, 6, 0, 0);
        });
        b.test("27 'how many are nowhere': all; 'on BENCHES': all BENCHES", () -> {
            BenchMemories x = new BenchMemories();
            for (int memory = 0; memory < 12; memory++) {
                x.forget(memory);
            }
            season(x, 2, 1, 12, 0, 0);
            for (int bench = 0; bench < 10; bench++) {
                x.lay(bench, bench, 9);
            }
            season(x, 1, 1, 2, 10, 0);
            season(x, 2, 1, 2, 9, 0);
        });
        b.test("27 'from all as it is': the PAD does not matter, be there a FAULT or not", () -> {
            BenchMemories x = Gardens.saying("A_");
            season(x, 2, 1, 4, 1, 0);
            season(Gardens.saying(x, "_"), 2, 1, 4, 1, 0);
        });
        b.test("27 'Nothing is DONE in fact.'", () -> {
            b.changesNothing("season(0, 99, 0)", x -> x.season(0, 99, 0));
            b.changesNothing("season(9999, 99, 1)", x -> x.season(9999, 99, 1));
            b.changesNothing("season(5, 1, 2)", x -> x.season(5, 1, 2));
            BenchMemories x = new BenchMemories();
            int first = x.season(5, 99, 1);
            b.is("the same again", x.season(5, 99, 1), first);
        });
    }

    /** Too long to be worked out by hand: in a garden with every way. */
    private static void asTheModel(int seed, int m) {
        BenchMemories x = Gardens.everyWay(new BenchMemories());
        Model model = new Model();
        for (int one = 0; one < 10; one++) {
            for (int other = one + 1; other < 10; other++) {
                model.way(one, other, true);
            }
        }
        season(x, seed, m, model.season(seed, m, 0), model.season(seed, m, 1), model.season(seed, m, 2));
    }

    private static void seasonRefused() {
        b.test("27 'OUTSIDE': the seed", () -> {
            for (int seed : new int[] {-1, 10000, MIN, MAX}) {
                b.refused("season(" + seed + ", 1, 0)", x -> x.season(seed, 1, 0), OUTSIDE);
                b.refused("season(" + seed + ", 99, 2)", x -> x.season(seed, 99, 2), OUTSIDE);
            }
        });
        b.test("27 'OUTSIDE': m", () -> {
            for (int m : new int[] {-1, 0, 100, MIN, MAX}) {
                b.refused("season(0, " + m + ", 0)", x -> x.season(0, m, 0), OUTSIDE);
                b.refused("season(9999, " + m + ", 2)", x -> x.season(9999, m, 2), OUTSIDE);
            }
        });
        b.test("27 'OUTSIDE': what", () -> {
            for (int what : new int[] {-1, 3, 32, MIN, MAX}) {
                b.refused("season(0, 1, " + what + ")", x -> x.season(0, 1, what), OUTSIDE);
                b.refused("season(9999, 99, " + what + ")", x -> x.season(9999, 99, what), OUTSIDE);
            }
            b.refused("season(MIN, MAX, MIN)", x -> x.season(MIN, MAX, MIN), OUTSIDE);
        });
    }

    /** What is changed behind an image is as it was when the image is restored. */
    private static void kept(String of, Consumer<BenchMemories> change) {
        for (int k = 0; k <= 1; k++) {
            BenchMemories x = Gardens.anew(Gardens.lively(), "");
            BenchMemories y = Gardens.anew(Gardens.lively(), "");
            b.is("image(" + k + ")", x.image(k), 1);
            change.accept(x);
            b.is(of + " is changed", Picture.now(x).equals(Picture.now(y)) ? 1 : 0, 0);
            b.is("restore(" + k + ")", x.restore(k), 1);
            b.same(of + " is as it was", Picture.now(x), Picture.now(y));
        }
    }

    private static void imagesKept() {
        b.test("28 ways are kept", () -> kept("a way", x -> x.way(0, 1, false)));
        b.test("28 ways that are new are gone", () -> kept("a way", x -> x.way(8, 9, true)));
        b.test("28 where ONES stand is kept", () -> kept("a stand", x -> x.stand(7, 0)));
        b.test("28 what ONES remember is kept", () -> kept("a memory", x -> x.give(11, 7)));
        b.test("28 what lies is kept", () -> kept("what lies", x -> x.lay(11, 2, 3)));
        b.test("28 what is nowhere is kept", () -> kept("what lies", x -> x.forget(8)));
        b.test("28 how FRESH it is is kept", () -> kept("how fresh", x -> x.lay(9, 6, 1)));
        b.test("28 CUSHIONS are kept", () -> kept("a cushion", x -> Gardens.saying(x, "#3#9").done()));
        b.test("28 the day is kept", () -> kept("the day", x -> Gardens.saying(x, ".").done()));
        b.test("28 SIGHTS are kept", () -> kept("sights", BenchMemories::clear));
        b.test("28 SIGHTS that are new are gone", () -> kept("sights", x -> x.seen(60, 1, true)));
        b.test("28 which SIGHTS, and not how many alone", () -> kept("sights", x -> {
            x.clear();
            x.seen(0, 7, true);
            x.seen(0, 7, true);
            x.seen(0, 7, true);
        }));
        b.test("28 'All but the PAD is kept'", () -> {
            BenchMemories x = Gardens.saying("A_B");
            x.image(0);
            Gardens.anew(x, "C!");
            b.is("restore", x.restore(0), 1);
            b.is("signs", x.told(0), 2);
            b.is("what was said since", x.done(), 1);
            b.is("done", x.told(102), NONE);
            b.is("not done", x.told(100), 0);
            x.restore(0);
            b.is("the pad stays empty", x.told(0), 0);
        });
        b.test("28 'an IMAGE (0, 1)': each its own, kept anew in its place", () -> {
            BenchMemories x = new BenchMemories();
            x.image(0);
            x.stand(0, 1);
            x.image(1);
            x.stand(0, 2);
            x.restore(0);
            b.is("of 0", x.told(40), 0);
            x.restore(1);
            b.is("of 1, it has stayed", x.told(40), 1);
            x.stand(0, 9);
            x.image(0);
            x.restore(1);
            b.is("of 1", x.told(40), 1);
            x.restore(0);
            b.is("of 0, anew", x.told(40), 9);
        });
        b.test("29 'as it was when it was kept': as often as one will, whatever is done since", () -> {
            BenchMemories x = Gardens.full();
            for (int time = 0; time < 3; time++) {
                x.way(0, 1, false);
                x.lay(0, 0, 1);
                x.clear();
                b.is("restore", x.restore(0), 1);
                b.is("ways", x.told(10), 1022);
                b.is("lies", x.told(20), 11);
                b.is("sights", x.told(3), 8);
                b.is("day", x.told(2), 99);
            }
        });
        b.test("28 the IMAGE of a new object", () -> {
            BenchMemories x = new BenchMemories();
            x.image(1);
            Gardens.everyWay(x);
            Gardens.saying(x, "A_B!#0.").done();
            x.seen(0, 0, true);
            x.restore(1);
            b.same("as new", Picture.now(x), Picture.now(new BenchMemories()));
        });
    }

    private static void imagesRefused() {
        b.test("28 'OUTSIDE'", () -> {
            for (int k : Bounds.NO_BIT) {
                b.refused("image(" + k + ")", x -> x.image(k), OUTSIDE);
            }
        });
        b.test("29 'OUTSIDE', before STATE", () -> {
            for (int k : Bounds.NO_BIT) {
                b.refused("restore(" + k + ")", x -> x.restore(k), OUTSIDE);
            }
        });
        b.test("29 'STATE: it was not': the one, the other, both", () -> {
            BenchMemories x = new BenchMemories();
            b.is("neither, 0", x.restore(0), STATE);
            b.is("neither, 1", x.restore(1), STATE);
            x.image(0);
            b.is("0 alone, 0", x.restore(0), 1);
            b.is("0 alone, 1", x.restore(1), STATE);
            BenchMemories y = Gardens.lively();
            b.is("1 alone, 0", y.restore(0), STATE);
            b.same("nothing is changed", Picture.now(y), Picture.now(Gardens.lively()));
            b.is("1 alone, 1", y.restore(1), 1);
        });
    }

    private static void told() {
        b.test("30 '0 signs': none, sixty", () -> {
            b.is("none", new BenchMemories().told(0), 0);
            b.is("sixty", Gardens.full().told(0), 60);
        });
        b.test("30 '1 CUSHIONS (bits)': none, all", () -> {
            b.is("none", new BenchMemories().told(1), 0);
            b.is("all", Gardens.full().told(1), 1023);
        });
        b.test("30 '2 the day': 0, 99", () -> {
            b.is("first", new BenchMemories().told(2), 0);
            b.is("last", Gardens.full().told(2), 99);
        });
        b.test("30 '3 SIGHTS': none, eight", () -> {
            b.is("none", new BenchMemories().told(3), 0);
            b.is("eight", Gardens.full().told(3), 8);
        });
        b.test("30 '10 and a BENCH': no way, all", () -> {
            for (int bench = 0; bench < 10; bench++) {
                b.is("none from " + bench, new BenchMemories().told(10 + bench), 0);
                b.is("all from " + bench, Gardens.full().told(10 + bench), 1023 - (1 << bench));
            }
        });
        b.test("30 '20 and a BENCH', '30 and a BENCH': nothing, something", () -> {
            for (int bench = 0; bench < 10; bench++) {
                b.is("nothing on " + bench, new BenchMemories().told(20 + bench), NONE);
                b.is("not fresh on " + bench, new BenchMemories().told(30 + bench), NONE);
                b.is("lies on " + bench, Gardens.full().told(20 + bench), 11 - bench);
                b.is("fresh on " + bench, Gardens.full().told(30 + bench), bench % 9 + 1);
            }
        });
        b.test("30 '40 and a ONE': each at the least and the greatest BENCH", () -> {
            BenchMemories x = new BenchMemories();
            for (int one = 0; one < 8; one++) {
                x.stand(one, 9);
                b.is("at the last " + one, x.told(40 + one), 9);
                x.stand(one, 0);
                b.is("at the first " + one, x.told(40 + one), 0);
            }
        });
        b.test("30 '50 and a ONE': MEMORY 0, MEMORY 11, NONE", () -> {
            for (int one = 0; one < 8; one++) {
                BenchMemories x = new BenchMemories();
                x.give(0, one);
                b.is("the first " + one, x.told(50 + one), 0);
                x.give(11, one);
                b.is("the last " + one, x.told(50 + one), 11);
                x.forget(11);
                b.is("none " + one, x.told(50 + one), NONE);
            }
        });
        b.test("30 '100 and a MEMORY': 'a ONE; 10 and a BENCH; NONE: nowhere'", () -> {
            for (int memory = 0; memory < 12; memory++) {
                BenchMemories x = new BenchMemories();
                x.give(memory, 0);
                b.is("with the first " + memory, x.told(100 + memory), 0);
                x.give(memory, 7);
                b.is("with the last " + memory, x.told(100 + memory), 7);
                x.lay(memory, 0, 1);
                b.is("on the first " + memory, x.told(100 + memory), 10);
                x.lay(memory, 9, 1);
                b.is("on the last " + memory, x.told(100 + memory), 19);
                x.forget(memory);
                b.is("nowhere " + memory, x.told(100 + memory), NONE);
            }
        });
        b.test("30 what is told is as it is now, and not as behind the PAD", () -> {
            BenchMemories x = Gardens.saying("A_#0.");
            b.is("memory", x.told(50), 0);
            b.is("cushions", x.told(1), 0);
            b.is("the day", x.told(2), 0);
        });
        b.test("30 nothing is changed by telling", () -> b.changesNothing("told(0)", x -> x.told(0)));
    }

    private static void toldRefused() {
        b.test("30 'OUTSIDE': all that is between, below and above", () -> {
            for (int what = -20; what < 300; what++) {
                boolean isTold = what >= 0 && what <= 3 || what >= 10 && what <= 47
                        || what >= 50 && what <= 57 || what >= 100 && what <= 111;
                if (!isTold) {
                    b.is("told(" + what + ")", new BenchMemories().told(what), OUTSIDE);
                    b.is("told(" + what + "), full", Gardens.full().told(what), OUTSIDE);
                }
            }
        });
        b.test("30 'OUTSIDE': the farthest, and where numbers come round", () -> {
            for (int what : new int[] {MIN, MIN + 10, MIN + 100, MIN + 111, MAX - 100, MAX, 256, 65536, -10, -100}) {
                b.refused("told(" + what + ")", x -> x.told(what), OUTSIDE);
            }
        });
    }
}
