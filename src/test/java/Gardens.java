import java.util.List;
import java.util.function.Supplier;

/** Gardens to ask, from a new one to one in which nothing more has room. */
final class Gardens {
    static final String SIXTY_EVENINGS = ".".repeat(60);

    private Gardens() {
    }

    /** Every kind of garden that a refused call is tried on. */
    static List<Supplier<BenchMemories>> kinds() {
        return List.of(BenchMemories::new, Gardens::lively, Gardens::full, Gardens::faulty, Gardens::stuck);
    }

    static BenchMemories saying(BenchMemories x, String signs) {
        for (char sign : signs.toCharArray()) {
            x.say(sign);
        }
        return x;
    }

    static BenchMemories saying(String signs) {
        return saying(new BenchMemories(), signs);
    }

    /** Says another text in the place of what stood there. */
    static BenchMemories anew(BenchMemories x, String signs) {
        x.wipe();
        return saying(x, signs);
    }

    static BenchMemories ways(BenchMemories x, int... ends) {
        for (int i = 0; i + 1 < ends.length; i += 2) {
            x.way(ends[i], ends[i + 1], true);
        }
        return x;
    }

    static BenchMemories everyWay(BenchMemories x) {
        for (int one = 0; one < 10; one++) {
            for (int other = one + 1; other < 10; other++) {
                x.way(one, other, true);
            }
        }
        return x;
    }

    /** A way from each bench to the next, from 0 to 9. */
    static BenchMemories oneBehindAnother() {
        return ways(new BenchMemories(), 0, 1, 1, 2, 2, 3, 3, 4, 4, 5, 5, 6, 6, 7, 7, 8, 8, 9);
    }

    static BenchMemories days(BenchMemories x, int count) {
        x.wipe();
        for (int day = 0; day < count; day++) {
            if (day > 0 && day % 60 == 0) {
                x.done();
            }
            x.say('.');
        }
        x.done();
        return x;
    }

    /** Something of each kind, image 1 kept, and a text all of which can be. */
    static BenchMemories lively() {
        BenchMemories x = ways(new BenchMemories(), 0, 1, 1, 2, 2, 3, 3, 4, 4, 0, 5, 6);
        x.stand(1, 0);
        x.stand(7, 9);
        x.lay(8, 2, 3);
        x.lay(9, 6, 9);
        x.lay(2, 0, 2);
        x.forget(5);
        saying(x, "#3.").done();
        x.seen(2, 1, true);
        x.seen(3, 7, false);
        x.image(1);
        x.way(5, 9, true);
        x.seen(9, 0, false);
        x.lay(10, 9, 1);
        return saying(x, "A_AxBA1.");
    }

    /** All ways, cushions and sights, the last day, a memory on each bench, a pad of sixty signs. */
    static BenchMemories full() {
        BenchMemories x = everyWay(new BenchMemories());
        saying(x, "#0#1#2#3#4#5#6#7#8#9").done();
        days(x, 99);
        for (int bench = 0; bench < 10; bench++) {
            x.lay(11 - bench, bench, bench % 9 + 1);
        }
        for (int sight = 0; sight < 8; sight++) {
            x.seen(60 - sight, 7 - sight, false);
        }
        x.image(0);
        x.image(1);
        return saying(x, "#3#4#5".repeat(10));
    }

    static BenchMemories faulty() {
        return saying(lively(), "B0B");
    }

    static BenchMemories stuck() {
        return saying(lively(), "B0H!H!");
    }
}
