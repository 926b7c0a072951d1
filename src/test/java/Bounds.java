import java.util.ArrayList;
import java.util.List;
import java.util.function.Supplier;
import java.util.function.ToLongFunction;

/** Tests by name, each with objects of its own; and how a call is shown to have changed nothing. */
final class Bounds {
    /** What is no number of a bench, one, memory: the nearest, the farthest, and where shifts come round. */
    static final int[] NO_BENCH = {-1, 10, 32, 42, -22, Integer.MIN_VALUE, Integer.MAX_VALUE};
    static final int[] NO_ONE = {-1, 8, 32, 40, -24, Integer.MIN_VALUE, Integer.MAX_VALUE};
    static final int[] NO_MEMORY = {-1, 12, 32, 100, -20, Integer.MIN_VALUE, Integer.MAX_VALUE};
    static final int[] NO_BIT = {-1, 2, 32, Integer.MIN_VALUE, Integer.MAX_VALUE};

    private final Due due;
    private final List<Supplier<BenchMemories>> kinds = Gardens.kinds();
    private final List<List<String>> untouched = new ArrayList<>();
    private final List<List<String>> untouchedImages = new ArrayList<>();
    private String sentence = "";
    private int tests;

    Bounds(String of) {
        due = new Due(of);
        for (Supplier<BenchMemories> kind : kinds) {
            untouched.add(Picture.now(kind.get()));
            untouchedImages.add(Picture.images(kind.get()));
        }
    }

    /** One test: what the document says, and what shows that it holds. */
    void test(String says, Runnable shows) {
        sentence = says;
        tests++;
        int before = due.answers();
        try {
            shows.run();
        } catch (RuntimeException | Error thrown) {
            due.holds(sentence + ": threw " + thrown, false);
        }
        due.holds(sentence + ": something was asked", due.answers() > before);
    }

    void is(String call, long got, long want) {
        due.is(sentence + ": " + call, got, want);
    }

    /** Refused in whatever garden, so and not otherwise, with nothing changed by it. */
    void refused(String call, ToLongFunction<BenchMemories> ask, long want) {
        for (int kind = 0; kind < kinds.size(); kind++) {
            is(call + " in garden " + kind, ask.applyAsLong(kinds.get(kind).get()), want);
        }
        changesNothing(call, ask);
    }

    void changesNothing(String call, ToLongFunction<BenchMemories> ask) {
        for (int kind = 0; kind < kinds.size(); kind++) {
            BenchMemories x = kinds.get(kind).get();
            ask.applyAsLong(x);
            same(call + " in garden " + kind, Picture.now(x), untouched.get(kind));
            BenchMemories y = kinds.get(kind).get();
            ask.applyAsLong(y);
            same(call + ", images in garden " + kind, Picture.images(y), untouchedImages.get(kind));
        }
    }

    void same(String call, List<String> got, List<String> want) {
        is(call + ": as many answers", got.size(), want.size());
        int unlike = 0;
        for (int i = 0; i < Math.min(got.size(), want.size()); i++) {
            if (!got.get(i).equals(want.get(i))) {
                unlike++;
                System.out.println(sentence + ": " + call + ": " + got.get(i) + " in the place of " + want.get(i));
            }
        }
        is(call + ": answers that are not the same", unlike, 0);
    }

    void end() {
        System.out.println(tests + " tests");
        due.end();
    }
}
