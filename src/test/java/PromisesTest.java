/** Promises 1 to 30, each by answers worked out by hand: ordinary inputs, edges, wrong inputs. */
public final class PromisesTest {
    private static final int MIN = Integer.MIN_VALUE, MAX = Integer.MAX_VALUE;
    private static final int UNKNOWN = -1, OUTSIDE = -2, STATE = -3, FULL = -4, NO = -5, NONE = -6;
    private static final long GONE = -1000000000000000000L;

    private static final Due due = new Due("PromisesTest");

    public static void main(String[] args) {
        constants();
        newObject1();
        way2();
        stand3();
        give4();
        lay5();
        forget6();
        say7();
        wipe8();
        fault9();
        judge10();
        judgeReasons10();
        behind11();
        lies12();
        hands13();
        most14();
        done15();
        steps16();
        get17();
        round18();
        walk19();
        right20();
        seen21();
        clear22();
        fits23();
        ask24();
        take25();
        evenings26();
        season27();
        image28();
        restore29();
        told30();
        due.end();
    }

    private static void is(String call, long got, long want) {
        due.is(call, got, want);
    }

    private static void constants() {
        is("UNKNOWN", BenchMemories.UNKNOWN, UNKNOWN);
        is("OUTSIDE", BenchMemories.OUTSIDE, OUTSIDE);
        is("STATE", BenchMemories.STATE, STATE);
        is("FULL", BenchMemories.FULL, FULL);
        is("NO", BenchMemories.NO, NO);
        is("NONE", BenchMemories.NONE, NONE);
        is("GONE", BenchMemories.GONE, GONE);
    }

    private static void newObject1() {
        BenchMemories x = new BenchMemories();
        for (int what = 0; what <= 3; what++) {
            is("1 told(" + what + ")", x.told(what), 0);
        }
        for (int bench = 0; bench < 10; bench++) {
            is("1 ways from " + bench, x.told(10 + bench), 0);
            is("1 lies on " + bench, x.told(20 + bench), NONE);
            is("1 fresh on " + bench, x.told(30 + bench), NONE);
        }
        for (int one = 0; one < 8; one++) {
            is("1 bench of " + one, x.told(40 + one), one);
            is("1 memory of " + one, x.told(50 + one), one);
        }
        for (int memory = 0; memory < 12; memory++) {
            is("1 place of " + memory, x.told(100 + memory), memory < 8 ? memory : NONE);
        }
        is("1 fault", x.fault(), NONE);
        is("1 restore(0)", x.restore(0), STATE);
        is("1 restore(1)", x.restore(1), STATE);
        x.way(0, 1, true);
        is("1 another object has no ways", new BenchMemories().told(10), 0);
    }

    private static void way2() {
        BenchMemories x = new BenchMemories();
        is("2 none away", x.way(3, 4, false), 0);
        is("2 first", x.way(0, 9, true), 1);
        is("2 the same", x.way(0, 9, true), 1);
        is("2 the same, turned", x.way(9, 0, true), 1);
        is("2 both ways", x.told(10), 1 << 9);
        is("2 both ways, other", x.told(19), 1);
        is("2 second", x.way(5, 9, true), 2);
        is("2 first away, turned", x.way(9, 0, false), 1);
        is("2 away", x.told(10), 0);
        is("2 the other is left", x.told(19), 1 << 5);
        is("2 one below", x.way(-1, 0, true), UNKNOWN);
        is("2 one above", x.way(10, 0, true), UNKNOWN);
        is("2 other below", x.way(0, -1, true), UNKNOWN);
        is("2 other above", x.way(0, 10, false), UNKNOWN);
        is("2 both one", x.way(5, 5, true), UNKNOWN);
        is("2 both one, no way", x.way(5, 5, false), UNKNOWN);
        is("2 far out", x.way(MIN, MAX, true), UNKNOWN);
        is("2 refused changes nothing", x.told(15), 1 << 9);
        Gardens.everyWay(x);
        is("2 all", x.way(0, 1, true), 45);
    }

    private static void stand3() {
        BenchMemories x = new BenchMemories();
        is("3 no way is asked for", x.stand(7, 9), 7);
        is("3 now", x.told(47), 9);
        is("3 again", x.stand(7, 9), 9);
        is("3 many on a bench", x.stand(0, 9), 0);
        is("3 he keeps his memory", x.told(57), 7);
        is("3 one below", x.stand(-1, 0), UNKNOWN);
        is("3 one above", x.stand(8, 0), UNKNOWN);
        is("3 bench below", x.stand(0, -1), UNKNOWN);
        is("3 bench above", x.stand(0, 10), UNKNOWN);
        is("3 far out", x.stand(MAX, MIN), UNKNOWN);
        is("3 refused changes nothing", x.told(40), 9);
    }

    private static void give4() {
        BenchMemories x = new BenchMemories();
        is("4 from nowhere", x.give(8, 0), NONE);
        is("4 now his", x.told(50), 8);
        is("4 his other one is nowhere", x.told(100), NONE);
        is("4 from one to another", x.give(8, 1), 0);
        is("4 the giver has none", x.told(50), NONE);
        is("4 the other one is nowhere", x.told(101), NONE);
        is("4 to who has it", x.give(8, 1), 1);
        is("4 he keeps it", x.told(51), 8);
        x.lay(9, 9, 4);
        is("4 from a bench", x.give(9, 7), 19);
        is("4 the bench is empty", x.told(29), NONE);
        is("4 the bench has no freshness", x.told(39), NONE);
        is("4 memory below", x.give(-1, 0), UNKNOWN);
        is("4 memory above", x.give(12, 0), UNKNOWN);
        is("4 one below", x.give(2, -1), UNKNOWN);
        is("4 one above", x.give(2, 8), UNKNOWN);
        is("4 far out", x.give(MIN, MAX), UNKNOWN);
        is("4 refused changes nothing", x.told(102), 2);
    }

    private static void lay5() {
        BenchMemories x = new BenchMemories();
        is("5 from nowhere", x.lay(11, 0, 1), NONE);
        is("5 lies", x.told(20), 11);
        is("5 least fresh", x.told(30), 1);
        is("5 afresh, on the same", x.lay(11, 0, 9), 10);
        is("5 most fresh", x.told(30), 9);
        is("5 it still lies", x.told(111), 10);
        is("5 from a one", x.lay(3, 0, 5), 3);
        is("5 who had it has none", x.told(53), NONE);
        is("5 what lay there is nowhere", x.told(111), NONE);
        is("5 to another bench", x.lay(3, 9, 2), 10);
        is("5 the bench is empty", x.told(20), NONE);
        is("5 place", x.told(103), 19);
        is("5 memory below", x.lay(-1, 0, 1), UNKNOWN);
        is("5 memory above", x.lay(12, 0, 1), UNKNOWN);
        is("5 bench below", x.lay(0, -1, 1), UNKNOWN);
        is("5 bench above", x.lay(0, 10, 1), UNKNOWN);
        is("5 fresh below", x.lay(0, 0, 0), OUTSIDE);
        is("5 fresh above", x.lay(0, 0, 10), OUTSIDE);
        is("5 unknown first", x.lay(12, 0, 0), UNKNOWN);
        is("5 unknown first, bench", x.lay(0, MAX, MIN), UNKNOWN);
        is("5 refused changes nothing", x.told(100), 0);
    }

    private static void forget6() {
        BenchMemories x = new BenchMemories();
        is("6 from a one", x.forget(7), 7);
        is("6 again", x.forget(7), NONE);
        is("6 who had it has none", x.told(57), NONE);
        x.lay(0, 4, 3);
        is("6 from a bench", x.forget(0), 14);
        is("6 the bench is empty", x.told(24), NONE);
        is("6 never anywhere", x.forget(11), NONE);
        is("6 below", x.forget(-1), UNKNOWN);
        is("6 above", x.forget(12), UNKNOWN);
        is("6 far out", x.forget(MIN), UNKNOWN);
    }

    private static void say7() {
        BenchMemories x = new BenchMemories();
        is("7 below", x.say(32), OUTSIDE);
        is("7 above", x.say(127), OUTSIDE);
        is("7 far out", x.say(MIN), OUTSIDE);
        is("7 far out", x.say(MAX), OUTSIDE);
        is("7 least", x.say(33), 1);
        is("7 most", x.say(126), 2);
        for (int i = 3; i <= 60; i++) {
            is("7 sign " + i, x.say('.'), i);
        }
        is("7 full", x.say('.'), FULL);
        is("7 outside before full", x.say(127), OUTSIDE);
        is("7 refused changes nothing", x.told(0), 60);
        x.wipe();
        for (int i = 0; i < 60; i++) {
            x.say('.');
        }
        is("7 sixty evenings", x.done(), 60);
        is("7 the sixtieth sign counts", x.told(2), 60);
    }

    private static void wipe8() {
        BenchMemories x = new BenchMemories();
        is("8 empty", x.wipe(), 0);
        Gardens.saying(x, "A!I");
        is("8 three", x.wipe(), 3);
        is("8 gone", x.wipe(), 0);
        is("8 no fault", x.fault(), NONE);
        is("8 not done", x.told(100), 0);
        Gardens.saying(x, "B!");
        is("8 anew", x.done(), 1);
        is("8 what is said anew counts", x.told(101), NONE);
        is("8 what was wiped does not", x.told(100), 0);
    }

    private static void fault(String signs, int want) {
        is("9 fault of " + signs, Gardens.saying(signs).fault(), want);
    }

    private static void fault9() {
        fault("", NONE);
        fault(".", NONE);
        fault("A0B9C_DxEFxFG!H!#0#9..", NONE);
        fault("I", 0);
        fault("@", 0);
        fault("a", 0);
        fault("0", 0);
        fault("_", 0);
        fault("x", 0);
        fault("!", 0);
        fault("~", 0);
        fault("A", 1);
        fault("H", 1);
        fault("#", 1);
        fault("Ax", 2);
        fault("..A", 3);
        fault("AA", 1);
        fault("A:", 1);
        fault("A/", 1);
        fault("A.", 1);
        fault("AX", 1);
        fault("AxI", 2);
        fault("Ax@", 2);
        fault("Axx", 2);
        fault("Ax1", 2);
        fault("#A", 1);
        fault("##", 1);
        fault("#:", 1);
        fault("#/", 1);
        fault("A1_", 2);
        fault("A12", 2);
        fault("#12", 2);
        fault("A_I_", 2);
        fault("AxB!", 3);
        BenchMemories x = Gardens.saying("A");
        is("9 more must come", x.fault(), 1);
        x.say('1');
        is("9 it came", x.fault(), NONE);
        x.say(200);
        is("9 a refused sign is not said", x.fault(), NONE);
    }

    private static void judged(BenchMemories x, String signs, int act, int why, int sat) {
        Gardens.anew(x, signs);
        is("10 judge(0) of " + signs, x.judge(0), act);
        is("10 judge(1) of " + signs, x.judge(1), why);
        is("10 judge(2) of " + signs, x.judge(2), sat);
    }

    private static void judge10() {
        BenchMemories x = new BenchMemories();
        Gardens.ways(x, 0, 1);
        judged(x, "", NONE, NONE, 0);
        judged(x, "A_A_A1#2.", NONE, NONE, 2);
        judged(x, "A1.A2B!", 2, 1, STATE);
        judged(x, "A", NO, NO, NO);
        judged(x, "A5A", NO, NO, NO);
        is("10 below, with a fault", x.judge(-1), OUTSIDE);
        is("10 above, with a fault", x.judge(3), OUTSIDE);
        is("10 far out", x.judge(MIN), OUTSIDE);
        is("10 far out", x.judge(MAX), OUTSIDE);
        judged(x, "A5", 0, 1, STATE);
        is("10 above, with an act that can not be", x.judge(3), OUTSIDE);
        judged(x, "B!B_", 1, 3, STATE);
        is("10 nothing is done", x.told(101), 1);
    }

    private static void judgeReasons10() {
        BenchMemories x = new BenchMemories();
        Gardens.ways(x, 0, 1);
        judged(x, "A0", 0, 1, STATE);
        judged(x, "A1A1", 1, 1, STATE);
        judged(x, "A1A0A1", NONE, NONE, 0);
        judged(x, "#0A_", 1, 2, STATE);
        judged(x, "#0#0A_", NONE, NONE, 1);
        judged(x, "#0A!A_", 2, 2, STATE);
        judged(x, "A!A_", 1, 3, STATE);
        judged(x, "A_A_A_", NONE, NONE, 3);
        judged(x, "A!A!", 1, 3, STATE);
        judged(x, "AxA", 0, 4, STATE);
        judged(x, "A!AxA", 1, 3, STATE);
        judged(x, "AxB", 0, 4, STATE);
        judged(x, "A1AxB", NONE, NONE, 0);
        judged(x, "A1A!AxB", NONE, NONE, 0);
        judged(x, "A1B!AxB", NONE, NONE, 0);
        judged(x, "A1A!B!AxB", 3, 3, STATE);
        judged(x, "A!B!AxB", 2, 3, STATE);
        judged(x, "A!AxB", 1, 4, STATE);
        judged(x, "C2", 0, 1, STATE);
        x.lay(8, 3, 9);
        judged(x, "D!D_D_D_D_", NONE, NONE, 4);
        judged(x, "D!D_D!D_", 3, 3, STATE);
        Gardens.days(x, 98);
        judged(x, ".", NONE, NONE, 0);
        judged(x, "..", 1, 5, STATE);
        Gardens.days(x, 1);
        is("10 the last day", x.told(2), 99);
        judged(x, ".", 0, 5, STATE);
        judged(x, "A_", NONE, NONE, 1);
    }

    private static void refusedAlike(String call, BenchMemories x, java.util.function.IntSupplier answer) {
        Gardens.anew(x, "A");
        is(call + ", a fault", answer.getAsInt(), NO);
        Gardens.anew(x, "A0A");
        is(call + ", a fault behind an act that can not be", answer.getAsInt(), NO);
        Gardens.anew(x, "A0");
        is(call + ", an act that can not be", answer.getAsInt(), STATE);
        x.wipe();
    }

    private static void behind11() {
        BenchMemories x = new BenchMemories();
        Gardens.ways(x, 0, 1, 1, 9);
        is("11 bench", x.behind(7, 0), 7);
        is("11 memory", x.behind(7, 1), 7);
        Gardens.saying(x, "A1AxBA9B!");
        is("11 bench behind", x.behind(0, 0), 9);
        is("11 memory behind", x.behind(0, 1), 1);
        is("11 none behind", x.behind(1, 1), NONE);
        is("11 nothing is done", x.told(40), 0);
        Gardens.anew(x, "A1A_B_");
        is("11 left", x.behind(0, 1), NONE);
        is("11 got", x.behind(1, 1), 0);
        refusedAlike("11", x, () -> x.behind(0, 0));
        Gardens.anew(x, "A");
        is("11 below", x.behind(-1, 5), UNKNOWN);
        is("11 above", x.behind(8, 0), UNKNOWN);
        is("11 what below", x.behind(0, -1), OUTSIDE);
        is("11 what above", x.behind(0, 2), OUTSIDE);
        is("11 far out", x.behind(MIN, MAX), UNKNOWN);
    }

    private static void lies12() {
        BenchMemories x = new BenchMemories();
        x.lay(8, 3, 2);
        x.lay(9, 9, 1);
        is("12 lies", x.lies(3, 0), 8);
        is("12 fresh", x.lies(3, 1), 2);
        is("12 none", x.lies(0, 0), NONE);
        is("12 none is not fresh", x.lies(0, 1), NONE);
        Gardens.saying(x, ".A_");
        is("12 less fresh", x.lies(3, 1), 1);
        is("12 gone", x.lies(9, 0), NONE);
        is("12 gone is not fresh", x.lies(9, 1), NONE);
        is("12 left", x.lies(0, 0), 0);
        is("12 left, fresh", x.lies(0, 1), 9);
        is("12 nothing is done", x.told(39), 1);
        Gardens.anew(x, "A_A_");
        is("12 taken", x.lies(0, 0), NONE);
        refusedAlike("12", x, () -> x.lies(0, 0));
        Gardens.anew(x, "A");
        is("12 below", x.lies(-1, 5), UNKNOWN);
        is("12 above", x.lies(10, 0), UNKNOWN);
        is("12 what below", x.lies(9, -1), OUTSIDE);
        is("12 what above", x.lies(9, 2), OUTSIDE);
        is("12 far out", x.lies(MAX, MIN), UNKNOWN);
    }

    private static void hands13() {
        BenchMemories x = new BenchMemories();
        x.stand(0, 1);
        x.lay(8, 1, 9);
        is("13 none yet", x.hands(0, 0), 0);
        is("13 who", x.hands(0, 1), 0);
        is("13 on a bench nobody", x.hands(8, 1), NONE);
        is("13 nowhere nobody", x.hands(9, 1), NONE);
        Gardens.saying(x, "A_");
        is("13 sat for", x.hands(8, 0), 1);
        is("13 sat for, who", x.hands(8, 1), 0);
        is("13 left", x.hands(0, 0), 0);
        is("13 left, who", x.hands(0, 1), NONE);
        Gardens.saying(x, "AxBAxBAxBB_");
        is("13 changed", x.hands(8, 0), 4);
        is("13 changed too", x.hands(1, 0), 3);
        is("13 sat for in the end", x.hands(0, 0), 1);
        is("13 who in the end", x.hands(0, 1), 1);
        is("13 confessed counts still", Gardens.saying(x, "B!").hands(0, 0), 1);
        is("13 confessed, who", x.hands(0, 1), NONE);
        Gardens.anew(x, "B!AxB");
        is("13 given alone", x.hands(0, 0), 1);
        is("13 of the text alone", x.hands(8, 0), 0);
        refusedAlike("13", x, () -> x.hands(0, 0));
        Gardens.anew(x, "A");
        is("13 below", x.hands(-1, 5), UNKNOWN);
        is("13 above", x.hands(12, 0), UNKNOWN);
        is("13 what below", x.hands(11, -1), OUTSIDE);
        is("13 what above", x.hands(11, 2), OUTSIDE);
        is("13 far out", x.hands(MIN, MAX), UNKNOWN);
    }

    private static void most14() {
        BenchMemories x = new BenchMemories();
        x.stand(6, 7);
        is("14 none", x.most(), NONE);
        is("14 left is no hand", Gardens.saying(x, "A_").most(), NONE);
        is("14 got", Gardens.saying(x, "A_").most(), 0);
        Gardens.anew(x, "GxH");
        is("14 the least of several", x.most(), 6);
        is("14 most", Gardens.saying(x, "G_H_").most(), 7);
        is("14 first of two", Gardens.anew(x, "H_H_G_G_G_G_").most(), 6);
        refusedAlike("14", x, x::most);
        is("14 empty again", x.most(), NONE);
    }

    private static void done15() {
        BenchMemories x = new BenchMemories();
        Gardens.ways(x, 0, 1, 1, 2);
        is("15 no acts", x.done(), 0);
        Gardens.saying(x, "A1A_B_BxB");
        is("15 can not be", x.done(), STATE);
        is("15 the pad is kept", x.told(0), 9);
        is("15 nothing is done", x.told(40), 0);
        Gardens.anew(x, "A1A_B_A2#4.B!B!");
        is("15 the last can not be", x.done(), STATE);
        is("15 nothing at all", x.told(1), 0);
        Gardens.anew(x, "A1A_B_A2#4.B!");
        is("15 acts", x.done(), 7);
        is("15 the pad is empty", x.told(0), 0);
        is("15 where", x.told(40), 2);
        is("15 what", x.told(50), NONE);
        is("15 confessed", x.told(100), NONE);
        is("15 lies", x.told(21), 1);
        is("15 fresh", x.told(31), 8);
        is("15 cushions", x.told(1), 1 << 4);
        is("15 day", x.told(2), 1);
        is("15 ways stay", x.told(11), 5);
        x.seen(3, 3, true);
        Gardens.saying(x, "A");
        is("15 a fault", x.done(), NO);
        is("15 the pad is kept, faulty", x.told(0), 1);
        Gardens.anew(x, "#4#0#9");
        is("15 cushions only", x.done(), 3);
        is("15 cushions now", x.told(1), 1 + 512);
        is("15 sights stay", x.told(3), 1);
        x.lay(5, 0, 1);
        x.lay(6, 9, 2);
        Gardens.saying(x, ".").done();
        is("15 gone toward evening", x.told(105), NONE);
        is("15 not yet gone", x.told(39), 1);
    }

    private static void steps16() {
        BenchMemories x = new BenchMemories();
        Gardens.ways(x, 0, 1, 1, 2, 2, 3, 3, 4, 4, 5, 5, 6, 6, 7, 7, 8, 8, 9);
        is("16 itself", x.steps(4, 4), 0);
        is("16 all along", x.steps(0, 9), 9);
        is("16 back", x.steps(9, 0), 9);
        is("16 near", x.steps(3, 4), 1);
        x.way(0, 7, true);
        is("16 shorter", x.steps(0, 9), 3);
        is("16 through", x.steps(1, 9), 4);
        x.way(8, 9, false);
        is("16 none", x.steps(0, 9), NONE);
        is("16 none, back", x.steps(9, 0), NONE);
        is("16 alone", x.steps(9, 9), 0);
        is("16 from below", x.steps(-1, 0), UNKNOWN);
        is("16 from above", x.steps(10, 0), UNKNOWN);
        is("16 to below", x.steps(0, -1), UNKNOWN);
        is("16 to above", x.steps(0, 10), UNKNOWN);
        is("16 far out", x.steps(MIN, MAX), UNKNOWN);
    }

    private static void get17() {
        BenchMemories x = new BenchMemories();
        Gardens.ways(x, 0, 1, 1, 2);
        x.lay(8, 2, 1);
        x.lay(9, 0, 9);
        is("17 two steps and sitting", x.get(0, 8), 3);
        is("17 here", x.get(2, 8), 1);
        is("17 what he has himself does not matter", x.get(0, 9), 1);
        is("17 no way", x.get(7, 8), NONE);
        is("17 with a one", x.get(0, 1), STATE);
        is("17 nowhere", x.get(0, 11), STATE);
        Gardens.saying(x, "#2#1").done();
        is("17 a cushion", x.get(0, 8), NONE);
        is("17 a cushion, here", x.get(2, 8), NONE);
        is("17 a cushion by the way does not matter", x.get(2, 9), 3);
        Gardens.saying(x, "A1");
        is("17 as things are now", x.get(0, 9), 1);
        is("17 one below", x.get(-1, 0), UNKNOWN);
        is("17 one above", x.get(8, 0), UNKNOWN);
        is("17 memory below", x.get(0, -1), UNKNOWN);
        is("17 memory above", x.get(0, 12), UNKNOWN);
        is("17 far out", x.get(MAX, MIN), UNKNOWN);
    }

    private static void round18() {
        BenchMemories x = new BenchMemories();
        is("18 alone", x.round(9, 512), 0);
        is("18 no way", x.round(0, 2), NONE);
        Gardens.ways(x, 0, 1, 1, 2, 2, 3, 3, 4, 4, 5, 5, 6, 6, 7, 7, 8, 8, 9);
        is("18 there and back", x.round(0, 1023), 18);
        is("18 both sides", x.round(4, 1 + 512), 18);
        is("18 one side", x.round(4, 1), 8);
        is("18 itself told or not", x.round(4, 1 + 16), 8);
        x.way(0, 9, true);
        is("18 round", x.round(0, 1023), 10);
        is("18 not round", x.round(0, 6), 4);
        is("18 none told", x.round(3, 0), 0);
        BenchMemories star = new BenchMemories();
        Gardens.ways(star, 5, 0, 5, 1, 5, 2, 5, 9);
        is("18 star from its middle", star.round(5, 1 + 2 + 4 + 512), 8);
        is("18 star from its end", star.round(0, 2 + 4), 6);
        is("18 star, one not to be reached", star.round(5, 1 + 8), NONE);
        is("18 below", x.round(-1, -1), UNKNOWN);
        is("18 above", x.round(10, 0), UNKNOWN);
        is("18 set below", x.round(0, -1), OUTSIDE);
        is("18 set above", x.round(0, 1024), OUTSIDE);
        is("18 far out", x.round(0, MIN), OUTSIDE);
        is("18 far out", x.round(MAX, MAX), UNKNOWN);
    }

    private static void walk19() {
        BenchMemories x = new BenchMemories();
        is("19 none", x.walk(4, 0), 0);
        is("19 none, which", x.walk(4, 1), 0);
        Gardens.everyWay(x);
        is("19 all", x.walk(0, 0), 9);
        is("19 all, which", x.walk(0, 1), 123456789);
        is("19 from the last", x.walk(9, 1), 12345678);
        BenchMemories y = new BenchMemories();
        Gardens.ways(y, 5, 1, 5, 2, 2, 3, 5, 4, 4, 6);
        is("19 not the first way, but the longest", y.walk(5, 0), 2);
        is("19 the first of the longest", y.walk(5, 1), 23);
        is("19 across", y.walk(3, 0), 4);
        is("19 across, which", y.walk(3, 1), 2546);
        Gardens.ways(y, 0, 8);
        is("19 to bench 0", y.walk(8, 1), 0);
        is("19 to bench 0, steps", y.walk(8, 0), 1);
        is("19 below", x.walk(-1, 5), UNKNOWN);
        is("19 above", x.walk(10, 0), UNKNOWN);
        is("19 what below", x.walk(0, -1), OUTSIDE);
        is("19 what above", x.walk(0, 2), OUTSIDE);
        is("19 far out", x.walk(MIN, MAX), UNKNOWN);
    }

    private static void right20() {
        BenchMemories x = new BenchMemories();
        is("20 right", x.right(123456, 0), 0);
        is("20 right, where", x.right(123456, 1), NONE);
        is("20 one sitting", x.right(1023456, 0), 1);
        is("20 one sitting, where", x.right(1023456, 1), 1);
        is("20 far bench", x.right(6123450, 0), 1);
        is("20 far bench, where", x.right(6123450, 1), 6);
        is("20 two changed", x.right(213456, 0), 3);
        is("20 two changed, where", x.right(123465, 1), 5);
        is("20 a ring of three with him", x.right(1203456, 0), 2);
        is("20 a ring of three with him, where", x.right(1203456, 1), 1);
        is("20 he with what belongs to 3", x.right(3120456, 1), 3);
        is("20 three rings", x.right(214365, 0), 9);
        is("20 a ring and a ring with him", x.right(6543210, 0), 7);
        is("20 eight digits", x.right(10123456, 0), OUTSIDE);
        is("20 a digit above", x.right(123457, 0), OUTSIDE);
        is("20 a digit twice", x.right(113456, 0), OUTSIDE);
        is("20 below", x.right(-123456, 0), OUTSIDE);
        is("20 nought", x.right(0, 0), OUTSIDE);
        is("20 what below", x.right(123456, -1), OUTSIDE);
        is("20 what above", x.right(123456, 2), OUTSIDE);
        is("20 far out", x.right(MIN, 0), OUTSIDE);
        is("20 far out", x.right(MAX, MAX), OUTSIDE);
    }

    private static void seen21() {
        BenchMemories x = new BenchMemories();
        is("21 sittings below", x.seen(-1, 0, true), OUTSIDE);
        is("21 sittings above", x.seen(61, 0, true), OUTSIDE);
        is("21 k below", x.seen(0, -1, true), OUTSIDE);
        is("21 k above", x.seen(0, 8, false), OUTSIDE);
        is("21 far out", x.seen(MIN, MAX, false), OUTSIDE);
        is("21 refused changes nothing", x.told(3), 0);
        is("21 first", x.seen(0, 0, true), 1);
        is("21 the same again", x.seen(0, 0, true), 2);
        is("21 edge", x.seen(60, 7, false), 3);
        for (int i = 4; i <= 8; i++) {
            is("21 sight " + i, x.seen(0, i - 1, false), i);
        }
        is("21 full", x.seen(0, 0, true), FULL);
        is("21 outside before full", x.seen(61, 0, true), OUTSIDE);
        // of eight and 0 it is 7 who has it behind 60 sittings, so that 80 does not fit
        is("21 all count", x.fits(-1), 6);
        is("21 the last that fits", x.fits(5), 70);
    }

    private static void clear22() {
        BenchMemories x = new BenchMemories();
        is("22 none", x.clear(), 0);
        x.seen(0, 0, true);
        x.seen(0, 1, true);
        is("22 they fit none", x.fits(-1), 0);
        is("22 two", x.clear(), 2);
        is("22 gone", x.clear(), 0);
        is("22 all fit again", x.fits(-1), 35);
        is("22 room again", x.seen(0, 1, true), 1);
        is("22 only the new one", x.fits(-1), 7);
    }

    private static void fits23() {
        BenchMemories x = new BenchMemories();
        is("23 all", x.fits(-1), 35);
        is("23 first", x.fits(0), 20);
        is("23 second", x.fits(1), 21);
        is("23 third", x.fits(2), 30);
        is("23 last", x.fits(34), 87);
        is("23 none above", x.fits(35), NONE);
        is("23 none below", x.fits(-2), NONE);
        is("23 none far out", x.fits(MIN), NONE);
        is("23 none far out", x.fits(MAX), NONE);
        x.seen(0, 7, true);
        is("23 only eight have a 7", x.fits(-1), 1);
        is("23 he", x.fits(0), 87);
        x.clear();
        x.seen(0, 7, false);
        is("23 who is not there has it not", x.fits(-1), 34);
        is("23 the last of them", x.fits(33), 86);
        x.clear();
        // of two, 1 has it behind 0: 0 left it first of all, and 1 sat down then
        x.seen(2, 1, true);
        x.seen(3, 1, true);
        x.seen(4, 1, true);
        is("23 of two, 1 leaves it in the fourth sitting", x.fits(0), 30);
        x.clear();
        // of two and 0: 0 leaves, 1 gets, 0 gets nothing, 1 leaves, 0 gets
        x.seen(5, 0, true);
        x.seen(4, 0, false);
        x.seen(4, 1, false);
        is("23 it lies on the bench behind four", x.fits(0), 20);
        is("23 an empty list", fitsNone(x).fits(0), NONE);
    }

    private static BenchMemories fitsNone(BenchMemories x) {
        x.clear();
        x.seen(1, 0, true);
        x.seen(0, 0, true);
        return x;
    }

    private static void ask24() {
        BenchMemories x = new BenchMemories();
        is("24 of all", x.ask(0), 0);
        is("24 of all, left", x.ask(1), 28);
        x.seen(0, 0, true);
        is("24 of 0 first", x.ask(0), 61);
        is("24 of 0 first, left", x.ask(1), 4);
        x.clear();
        x.seen(0, 7, true);
        is("24 of one", x.ask(0), 0);
        is("24 of one, left", x.ask(1), 1);
        x.clear();
        x.seen(20, 0, true);
        is("24 behind 27", x.ask(0), 271);
        is("24 behind 27, left", x.ask(1), 3);
        x.clear();
        x.seen(48, 5, false);
        x.seen(50, 2, false);
        is("24 behind the last sitting", x.ask(0), 601);
        is("24 behind the last sitting, left", x.ask(1), 20);
        is("24 none fits", fitsNone(x).ask(0), NONE);
        is("24 none fits, left", x.ask(1), NONE);
        is("24 outside before none", x.ask(2), OUTSIDE);
        is("24 below", x.ask(-1), OUTSIDE);
        is("24 far out", x.ask(MIN), OUTSIDE);
        is("24 far out", x.ask(MAX), OUTSIDE);
    }

    private static void take25() {
        BenchMemories x = new BenchMemories();
        is("25 none", x.take(0, 0), 0);
        is("25 none, which", x.take(0, 1), NONE);
        is("25 one", x.take(1, 0), 1);
        is("25 one, which", x.take(1, 1), 0);
        is("25 two", x.take(2, 1), 0);
        is("25 three by the middle", x.take(3, 1), 1);
        is("25 four", x.take(4, 0), 0);
        is("25 four, which", x.take(4, 1), NONE);
        is("25 five by the middle", x.take(5, 1), 2);
        is("25 six", x.take(6, 1), 0);
        is("25 eight", x.take(8, 0), 0);
        is("25 eight, which", x.take(8, 1), NONE);
        is("25 forty", x.take(40, 0), 1);
        is("25 below", x.take(-1, 0), OUTSIDE);
        is("25 above", x.take(41, 1), OUTSIDE);
        is("25 what below", x.take(5, -1), OUTSIDE);
        is("25 what above", x.take(5, 2), OUTSIDE);
        is("25 far out", x.take(MIN, MAX), OUTSIDE);
    }

    private static void evening(int m, int n, long upper, long lower, long meanUpper, long meanLower) {
        BenchMemories x = new BenchMemories();
        String of = "26 of " + m + " and " + n;
        is(of + ", chance, upper", x.evenings(m, n, 0, 0), upper);
        is(of + ", chance, lower", x.evenings(m, n, 0, 1), lower);
        is(of + ", mean, upper", x.evenings(m, n, 1, 0), meanUpper);
        is(of + ", mean, lower", x.evenings(m, n, 1, 1), meanLower);
    }

    private static void evenings26() {
        evening(0, 1, 0, 1, 0, 1);
        evening(0, 10, 0, 1, 0, 1);
        evening(1, 1, 1, 1, 1, 1);
        evening(12, 1, 1, 1, 1, 1);
        evening(1, 10, 1, 10, 1, 1);
        evening(2, 2, 3, 4, 3, 2);
        evening(2, 3, 5, 9, 5, 3);
        evening(3, 4, 37, 64, 37, 16);
        evening(12, 10, 717570463519L, 1000000000000L, 717570463519L, 100000000000L);
        BenchMemories x = new BenchMemories();
        is("26 m below", x.evenings(-1, 1, 0, 0), GONE + OUTSIDE);
        is("26 m above", x.evenings(13, 1, 0, 0), GONE + OUTSIDE);
        is("26 n below", x.evenings(1, 0, 0, 0), GONE + OUTSIDE);
        is("26 n above", x.evenings(1, 11, 0, 0), GONE + OUTSIDE);
        is("26 what below", x.evenings(1, 1, -1, 0), GONE + OUTSIDE);
        is("26 what above", x.evenings(1, 1, 2, 0), GONE + OUTSIDE);
        is("26 part below", x.evenings(1, 1, 0, -1), GONE + OUTSIDE);
        is("26 part above", x.evenings(1, 1, 0, 2), GONE + OUTSIDE);
        is("26 far out", x.evenings(MIN, MAX, MIN, MAX), GONE + OUTSIDE);
    }

    private static void season27() {
        BenchMemories x = new BenchMemories();
        // seed 1 draws 149: 5, lot 2, z 2: he should go, and can not
        is("27 one draw, nowhere", x.season(1, 1, 0), 4);
        is("27 one draw, on benches", x.season(1, 1, 1), 0);
        is("27 one draw, the day", x.season(1, 1, 2), 0);
        // seed 0 draws 74: 2, lot 1; then 5624: 0, lot 7: an evening
        is("27 an evening", x.season(0, 2, 2), 1);
        is("27 not before", x.season(0, 1, 2), 0);
        // seed 2 draws 224: 0, lot 4: he sits
        is("27 he sits", x.season(2, 1, 1), 1);
        is("27 nothing is done", x.told(100), 0);
        x.forget(0);
        is("27 nothing to be left", x.season(2, 1, 1), 0);
        is("27 from all as it is", x.season(2, 1, 0), 5);
        x.lay(8, 0, 1);
        is("27 he gets it", x.season(2, 1, 1), 0);
        is("27 it fades in the evening", x.season(0, 2, 0), 5);
        Gardens.saying(x, "#0").done();
        is("27 a cushion", x.season(2, 1, 1), 1);
        Gardens.saying(x, "A");
        is("27 the pad does not matter", x.season(9999, 99, 2) >= 0 ? 1 : 0, 1);
        is("27 seed below", x.season(-1, 1, 0), OUTSIDE);
        is("27 seed above", x.season(10000, 1, 0), OUTSIDE);
        is("27 m below", x.season(0, 0, 0), OUTSIDE);
        is("27 m above", x.season(0, 100, 0), OUTSIDE);
        is("27 what below", x.season(0, 1, -1), OUTSIDE);
        is("27 what above", x.season(0, 1, 3), OUTSIDE);
        is("27 far out", x.season(MIN, MAX, MIN), OUTSIDE);
        seasonDraws27();
        Gardens.days(x, 99);
        is("27 no evening behind the last", x.season(0, 99, 2), 99);
    }

    private static void seasonDraws27() {
        BenchMemories x = new BenchMemories();
        // seed 27 draws 2099: D, lot 6, z 32; seed 21 draws 1649: B, lot 6, z 25
        is("27 he confesses", x.season(27, 1, 0), 5);
        is("27 he does not confess", x.season(21, 1, 0), 4);
        // seed 302 draws 22724: E, lot 0, z 355; then 412: E, lot 3: he goes to 5, and sits
        x.forget(4);
        x.lay(8, 5, 9);
        is("27 no way: nothing to be left nor got", x.season(302, 2, 1), 1);
        x.way(4, 5, true);
        is("27 he goes to 5, and gets it", x.season(302, 2, 1), 0);
        is("27 nothing is done", x.told(44), 4);
        // seed 8952 draws 16104: A, lot 5, z 251; then 28208: A, lot 6, z 440
        BenchMemories y = new BenchMemories();
        y.forget(0);
        is("27 not together: nothing to be confessed", y.season(8952, 2, 0), 5);
        y.stand(0, 3);
        is("27 he changes with D, and confesses", y.season(8952, 2, 0), 6);
        is("27 he changes with D", y.season(8952, 1, 0), 5);
        // seed 356 draws 26774: G, lot 2, z 418; then 42014: G, lot 3: he goes to 8, and sits
        y.forget(6);
        y.way(6, 8, true);
        y.lay(9, 8, 1);
        is("27 lot 2 is a way too", y.season(356, 2, 1), 0);
        // seed 122 draws 9224: A, lot 1, z 144; then 36504: A, lot 3: he goes to 4, and sits
        y.lay(10, 4, 1);
        y.way(3, 4, true);
        is("27 lot 1 is a way too", y.season(122, 2, 1), 1);
    }

    private static void image28() {
        BenchMemories x = new BenchMemories();
        is("28 below", x.image(-1), OUTSIDE);
        is("28 above", x.image(2), OUTSIDE);
        is("28 far out", x.image(MIN), OUTSIDE);
        is("28 refused keeps none", x.restore(0), STATE);
        is("28 first", x.image(0), 1);
        is("28 the other is not kept", x.restore(1), STATE);
        x.stand(0, 5);
        is("28 second", x.image(1), 1);
        x.stand(0, 6);
        is("28 again, in its place", x.image(0), 1);
        x.stand(0, 7);
        x.restore(1);
        is("28 the second is as it was", x.told(40), 5);
        x.restore(0);
        is("28 the first was kept anew", x.told(40), 6);
    }

    private static void restore29() {
        BenchMemories x = new BenchMemories();
        is("29 below", x.restore(-1), OUTSIDE);
        is("29 above", x.restore(2), OUTSIDE);
        is("29 far out", x.restore(MAX), OUTSIDE);
        Gardens.ways(x, 0, 1);
        x.stand(0, 4);
        x.lay(9, 3, 5);
        x.seen(0, 5, true);
        Gardens.saying(x, "#2.").done();
        x.image(1);
        is("29 not kept", x.restore(0), STATE);
        Gardens.ways(x, 2, 3);
        x.way(0, 1, false);
        x.stand(0, 7);
        x.lay(9, 6, 1);
        x.lay(3, 3, 9);
        x.clear();
        x.seen(0, 0, true);
        x.seen(1, 0, true);
        Gardens.saying(x, "#2#5...").done();
        Gardens.saying(x, "AA");
        is("29 restored", x.restore(1), 1);
        is("29 way back", x.told(10), 2);
        is("29 way gone", x.told(12), 0);
        is("29 bench", x.told(40), 4);
        is("29 memory", x.told(53), 3);
        is("29 lies", x.told(23), 9);
        is("29 fresh", x.told(33), 4);
        is("29 lies no more", x.told(26), NONE);
        is("29 cushions", x.told(1), 4);
        is("29 day", x.told(2), 1);
        is("29 sights", x.told(3), 1);
        is("29 which sight", x.fits(0), 65);
        is("29 the pad is not kept", x.told(0), 2);
        x.stand(0, 9);
        is("29 again", x.restore(1), 1);
        is("29 as it was again", x.told(40), 4);
    }

    private static void told30() {
        BenchMemories x = new BenchMemories();
        Gardens.ways(x, 9, 8, 9, 0);
        x.lay(11, 9, 7);
        x.forget(7);
        x.stand(7, 0);
        x.seen(1, 1, true);
        Gardens.saying(x, "#0#9.").done();
        Gardens.saying(x, "xyz");
        is("30 signs", x.told(0), 3);
        is("30 cushions", x.told(1), 513);
        is("30 day", x.told(2), 1);
        is("30 sights", x.told(3), 1);
        is("30 ways", x.told(19), 257);
        is("30 lies", x.told(29), 11);
        is("30 fresh", x.told(39), 6);
        is("30 his bench", x.told(47), 0);
        is("30 his memory", x.told(57), NONE);
        is("30 with a one", x.told(106), 6);
        is("30 nowhere", x.told(107), NONE);
        is("30 on a bench", x.told(111), 19);
        int[] none = {MIN, MIN + 50, -100, -1, 4, 9, 48, 49, 58, 60, 99, 112, 1000, MAX - 50, MAX};
        for (int what : none) {
            is("30 told(" + what + ")", x.told(what), OUTSIDE);
        }
    }
}
