import java.util.ArrayList;
import java.util.List;

/** What an object answers when all is asked of it, to hold two objects against each other. */
final class Picture {
    private final List<String> answers = new ArrayList<>();

    private Picture() {
    }

    /** Garden, pad, sights and what follows from them, as they are. */
    static List<String> now(BenchMemories x) {
        Picture p = new Picture();
        p.add("told(0)", x.told(0));
        p.garden(x);
        p.days(x);
        p.questions(x);
        return p.answers;
    }

    /** Both images, as they were kept. */
    static List<String> images(BenchMemories x) {
        Picture p = new Picture();
        for (int k = 0; k <= 1; k++) {
            int restored = x.restore(k);
            p.add("restore(" + k + ")", restored);
            if (restored == 1) {
                p.garden(x);
                p.add("fits(-1)", x.fits(-1));
            }
        }
        return p.answers;
    }

    private void add(String call, long answer) {
        answers.add(call + " " + answer);
    }

    private void garden(BenchMemories x) {
        for (int what = 1; what <= 3; what++) {
            add("told(" + what + ")", x.told(what));
        }
        for (int bench = 0; bench < 10; bench++) {
            add("ways from " + bench, x.told(10 + bench));
            add("on bench " + bench, x.told(20 + bench));
            add("fresh on " + bench, x.told(30 + bench));
        }
        for (int one = 0; one < 8; one++) {
            add("bench of " + one, x.told(40 + one));
            add("memory of " + one, x.told(50 + one));
        }
        for (int memory = 0; memory < 12; memory++) {
            add("place of " + memory, x.told(100 + memory));
        }
    }

    private void days(BenchMemories x) {
        add("fault()", x.fault());
        for (int what = 0; what <= 2; what++) {
            add("judge(" + what + ")", x.judge(what));
        }
        for (int one = 0; one < 8; one++) {
            add("behind " + one, x.behind(one, 1));
        }
        for (int bench = 0; bench < 10; bench++) {
            add("lies on " + bench, x.lies(bench, 0));
        }
        for (int memory = 0; memory < 12; memory++) {
            add("hands " + memory, x.hands(memory, 0));
        }
        add("most()", x.most());
    }

    private void questions(BenchMemories x) {
        for (int memory = 0; memory < 12; memory++) {
            add("get " + memory, x.get(0, memory));
        }
        add("round", x.round(0, 31));
        add("walk", x.walk(0, 1));
        for (int i = -1; i < 35; i++) {
            add("fits(" + i + ")", x.fits(i));
        }
        add("ask", x.ask(0));
        for (int what = 0; what <= 2; what++) {
            add("season " + what, x.season(5, 90, what));
        }
    }
}
