import java.util.function.Supplier;
import java.util.function.ToLongFunction;

/** The bounds of promises 10 to 16: what can not be and why, what is behind the days, steps. */
public final class DaysBoundsTest {
    private static final int MIN = Integer.MIN_VALUE, MAX = Integer.MAX_VALUE;
    private static final int UNKNOWN = -1, OUTSIDE = -2, STATE = -3, NO = -5, NONE = -6;

    private static final Bounds b = new Bounds("DaysBoundsTest");

    public static void main(String[] args) {
        judged();
        judgeRefused();
        noWay();
        cushioned();
        nothing();
        notTogether();
        noMoreDays();
        leastReason();
        whatActsDo();
        evenings();
        behind();
        lies();
        hands();
        most();
        done();
        doneRefused();
        steps();
        b.end();
    }

    /** The first act of the text that can not be, and why (NONE and NONE: all can be). */
    private static void reason(BenchMemories x, String signs, int act, int why) {
        Gardens.anew(x, signs);
        b.is("judge(0) of " + signs, x.judge(0), act);
        b.is("judge(1) of " + signs, x.judge(1), why);
    }

    private static void canBe(BenchMemories x, String signs) {
        reason(x, signs, NONE, NONE);
    }

    private static void judged() {
        b.test("10 an empty PAD: no ACTS, all can be", () -> {
            BenchMemories x = new BenchMemories();
            b.is("judge(0)", x.judge(0), NONE);
            b.is("judge(1)", x.judge(1), NONE);
            b.is("judge(2)", x.judge(2), 0);
        });
        b.test("10 'the first ACT (from 0 on) that can not be'", () -> {
            reason(new BenchMemories(), "A5", 0, 1);
            reason(new BenchMemories(), ".A5", 1, 1);
            reason(new BenchMemories(), "A5AxAA5", 0, 1);
            reason(new BenchMemories(), "#0AxAA5", 1, 4);
        });
        b.test("10 ACTS are counted, not signs: the last of thirty, the last of sixty", () -> {
            reason(new BenchMemories(), "#0".repeat(29) + "A0", 29, 1);
            reason(Gardens.days(new BenchMemories(), 40), Gardens.SIXTY_EVENINGS, 59, 5);
            canBe(Gardens.days(new BenchMemories(), 39), Gardens.SIXTY_EVENINGS);
            reason(new BenchMemories(), ".".repeat(57) + "BxB", 57, 4);
        });
        b.test("10 'how often was sat down in the text': never, once, thirty times", () -> {
            BenchMemories x = new BenchMemories();
            b.is("never", Gardens.anew(x, "#1.A!").judge(2), 0);
            b.is("once", Gardens.anew(x, "B_").judge(2), 1);
            b.is("thirty times", Gardens.anew(x, "B_".repeat(30)).judge(2), 30);
            b.is("whoever", Gardens.anew(x, "A_B_C_D_E_F_G_H_").judge(2), 8);
        });
    }

    private static void judgeRefused() {
        b.test("10 'OUTSIDE'", () -> {
            for (int what : new int[] {-1, 3, MIN, MAX}) {
                b.refused("judge(" + what + ")", x -> x.judge(what), OUTSIDE);
            }
        });
        b.test("10 'NO: there is a FAULT', before STATE", () -> {
            for (int what = 0; what <= 2; what++) {
                b.is("of a fault, " + what, Gardens.saying("A").judge(what), NO);
                b.is("of an act that can not be and a fault, " + what, Gardens.saying("A0A").judge(what), NO);
                b.is("of a fault at the last sign, " + what,
                        Gardens.saying(".".repeat(59) + "!").judge(what), NO);
            }
        });
        b.test("10 'STATE (2): some ACT can not be'", () -> {
            b.is("the first", Gardens.saying("A0").judge(2), STATE);
            b.is("the last", Gardens.saying("A_B_C_C0").judge(2), STATE);
            b.is("not of 0", Gardens.saying("A0").judge(0), 0);
            b.is("not of 1", Gardens.saying("A0").judge(1), 1);
        });
        b.test("10 nothing is changed by being judged", () -> {
            for (int what = 0; what <= 2; what++) {
                int asked = what;
                b.changesNothing("judge(" + what + ")", x -> x.judge(asked));
            }
        });
    }

    private static void noWay() {
        b.test("10 '1 no WAY leads there (a digit)': from each BENCH to each", () -> {
            for (int from = 0; from < 10; from++) {
                for (int to = 0; to < 10; to++) {
                    BenchMemories x = new BenchMemories();
                    boolean led = from != to;
                    x.way(from, to, true);
                    x.stand(7, from);
                    for (int goal = 0; goal < 10; goal++) {
                        boolean can = led && goal == to;
                        Gardens.anew(x, "H" + goal);
                        b.is("from " + from + " to " + goal, x.judge(1), can ? NONE : 1);
                    }
                }
            }
        });
        b.test("10 to the BENCH where he is no WAY leads", () -> {
            BenchMemories x = Gardens.everyWay(new BenchMemories());
            for (int one = 0; one < 8; one++) {
                reason(x, "" + (char) ('A' + one) + one, 0, 1);
            }
        });
        b.test("10 two WAYS on is no WAY there, a WAY that is none any more is none", () -> {
            BenchMemories x = Gardens.ways(new BenchMemories(), 0, 1, 1, 2);
            reason(x, "A2", 0, 1);
            canBe(x, "A1A2");
            x.way(2, 1, false);
            reason(x, "A1A2", 1, 1);
        });
    }

    private static void cushioned() {
        b.test("10 '2 there is a CUSHION on it (_)': on each BENCH", () -> {
            for (int bench = 0; bench < 10; bench++) {
                BenchMemories x = new BenchMemories();
                x.stand(0, bench);
                canBe(x, "A_");
                reason(x, "#" + bench + "A_", 1, 2);
                canBe(x, "#" + bench + "#" + bench + "A_");
                canBe(x, "#" + (bench + 1) % 10 + "A_");
            }
        });
        b.test("10 a CUSHION keeps nobody from going there, changing, confessing", () -> {
            BenchMemories x = Gardens.ways(new BenchMemories(), 0, 1);
            canBe(x, "#0#1A1AxBA!A0");
        });
    }

    private static void nothing() {
        b.test("10 '3 there is nothing to be left, nor to be got (_)'", () -> {
            BenchMemories x = new BenchMemories();
            canBe(x, "A_");
            x.lay(8, 0, 1);
            canBe(x, "A_");
            x.forget(0);
            canBe(x, "A_");
            x.forget(8);
            reason(x, "A_", 0, 3);
            x.lay(8, 1, 1);
            reason(x, "A_", 0, 3);
        });
        b.test("10 '3 there is nothing .. to be changed (x)'", () -> {
            BenchMemories x = new BenchMemories();
            x.stand(7, 0);
            canBe(x, "AxH");
            canBe(x, "HxA");
            x.forget(0);
            canBe(x, "AxH");
            canBe(x, "HxA");
            x.give(0, 0);
            x.forget(7);
            canBe(x, "AxH");
            canBe(x, "HxA");
            x.forget(0);
            reason(x, "AxH", 0, 3);
            reason(x, "HxA", 0, 3);
        });
        b.test("10 '3 there is nothing .. to be confessed (!)'", () -> {
            BenchMemories x = new BenchMemories();
            for (int one = 0; one < 8; one++) {
                String confesses = (char) ('A' + one) + "!";
                canBe(x, confesses);
                reason(x, confesses + confesses, 1, 3);
                x.lay(11, one, 9);
                reason(x, confesses + confesses, 1, 3);
                x.forget(one);
                reason(x, confesses, 0, 3);
            }
        });
    }

    private static void notTogether() {
        b.test("10 '4 both are one'", () -> {
            BenchMemories x = new BenchMemories();
            for (char one = 'A'; one <= 'H'; one++) {
                reason(x, one + "x" + one, 0, 4);
            }
        });
        b.test("10 '4 .. or not at one BENCH (x)': each with each", () -> {
            for (char one = 'A'; one <= 'H'; one++) {
                for (char other = 'A'; other <= 'H'; other++) {
                    BenchMemories x = new BenchMemories();
                    reason(x, one + "x" + other, 0, 4);
                    x.stand(one - 'A', 9);
                    reason(x, one + "x" + other, 0, 4);
                    x.stand(other - 'A', 9);
                    Gardens.anew(x, one + "x" + other);
                    b.is(one + " and " + other + " at one bench", x.judge(1), one == other ? 4 : NONE);
                }
            }
        });
        b.test("10 at one BENCH is at one BENCH then, not now", () -> {
            BenchMemories x = Gardens.ways(new BenchMemories(), 0, 1);
            canBe(x, "A1AxB");
            reason(x, "A1A0AxB", 2, 4);
        });
    }

    private static void noMoreDays() {
        b.test("10 '5 it is day 99 (.)'", () -> {
            BenchMemories x = Gardens.days(new BenchMemories(), 97);
            canBe(x, "..");
            reason(x, "...", 2, 5);
            Gardens.days(x, 1);
            b.is("the day", x.told(2), 98);
            canBe(x, ".");
            reason(x, "..", 1, 5);
            Gardens.days(x, 1);
            b.is("the last day", x.told(2), 99);
            reason(x, ".", 0, 5);
        });
        b.test("10 on day 99 all but an evening can be", () -> {
            BenchMemories x = Gardens.days(Gardens.ways(new BenchMemories(), 0, 1), 99);
            canBe(x, "A1AxBA_B!#0");
            b.is("done", x.done(), 5);
            b.is("the day", x.told(2), 99);
        });
    }

    private static void leastReason() {
        b.test("10 'the least of these reasons': 2 before 3", () -> {
            reason(new BenchMemories(), "A!#0A_", 2, 2);
            reason(new BenchMemories(), "A!A_", 1, 3);
        });
        b.test("10 'the least of these reasons': 3 before 4, not at one BENCH", () -> {
            reason(new BenchMemories(), "A!B!AxB", 2, 3);
            reason(new BenchMemories(), "A!AxB", 1, 4);
            reason(new BenchMemories(), "B!AxB", 1, 4);
        });
        b.test("10 'the least of these reasons': 3 before 4, both are one", () -> {
            reason(new BenchMemories(), "A!AxA", 1, 3);
            reason(new BenchMemories(), "B!AxA", 1, 4);
        });
        b.test("10 the first ACT, and not the least reason of all ACTS", () -> {
            reason(new BenchMemories(), "AxBA5", 0, 4);
            reason(Gardens.days(new BenchMemories(), 99), "A_.A0", 1, 5);
        });
    }

    private static void whatActsDo() {
        b.test("11 'he sits (what he remembers lies there then, FRESH by 9, and he remembers what lay there'", () -> {
            BenchMemories x = new BenchMemories();
            x.lay(8, 0, 1);
            Gardens.saying(x, "A_");
            b.is("he remembers", x.behind(0, 1), 8);
            b.is("lies", x.lies(0, 0), 0);
            b.is("fresh", x.lies(0, 1), 9);
        });
        b.test("11 '_ .. either may be nothing': nothing lay there", () -> {
            BenchMemories x = Gardens.saying("A_");
            b.is("he remembers", x.behind(0, 1), NONE);
            b.is("lies", x.lies(0, 0), 0);
            b.is("fresh", x.lies(0, 1), 9);
        });
        b.test("11 '_ .. either may be nothing': he remembered nothing", () -> {
            BenchMemories x = new BenchMemories();
            x.lay(0, 0, 1);
            Gardens.saying(x, "A_");
            b.is("he remembers", x.behind(0, 1), 0);
            b.is("lies", x.lies(0, 0), NONE);
            b.is("fresh", x.lies(0, 1), NONE);
        });
        b.test("11 'both change what they remember; either may be nothing'", () -> {
            BenchMemories x = new BenchMemories();
            x.stand(7, 0);
            Gardens.saying(x, "AxH");
            b.is("A", x.behind(0, 1), 7);
            b.is("H", x.behind(7, 1), 0);
            Gardens.anew(x, "A!AxH");
            b.is("A, who had none", x.behind(0, 1), 7);
            b.is("H, who gave", x.behind(7, 1), NONE);
            Gardens.anew(x, "H!AxH");
            b.is("A, who gave", x.behind(0, 1), NONE);
            b.is("H, who had none", x.behind(7, 1), 0);
        });
        b.test("11 'he confesses: what he remembers is nowhere then'", () -> {
            BenchMemories x = Gardens.saying("H!");
            b.is("he", x.behind(7, 1), NONE);
            b.is("nobody", x.hands(7, 1), NONE);
            x.done();
            b.is("nowhere", x.told(107), NONE);
        });
        b.test("15 'a CUSHION is laid on that BENCH, or taken away': each", () -> {
            BenchMemories x = new BenchMemories();
            for (int bench = 0; bench < 10; bench++) {
                Gardens.saying(x, "#" + bench).done();
                b.is("laid on " + bench, x.told(1), (2 << bench) - 1);
            }
            for (int bench = 0; bench < 10; bench++) {
                Gardens.saying(x, "#" + bench).done();
                b.is("taken from " + bench, x.told(1), 1023 & -(2 << bench));
            }
        });
    }

    private static void evenings() {
        b.test("12 'each MEMORY that lies on a BENCH is FRESH by 1 less; at 0 it is nowhere'", () -> {
            BenchMemories x = new BenchMemories();
            for (int v = 1; v <= 9; v++) {
                x.lay(v, v, v);
            }
            for (int day = 1; day <= 9; day++) {
                x.say('.');
                for (int v = 1; v <= 9; v++) {
                    b.is("fresh " + v + " behind " + day, x.lies(v, 1), v > day ? v - day : NONE);
                    b.is("lies, " + v + " behind " + day, x.lies(v, 0), v > day ? v : NONE);
                }
            }
            b.is("done", x.done(), 9);
            for (int v = 1; v <= 9; v++) {
                b.is("nowhere " + v, x.told(100 + v), NONE);
            }
        });
        b.test("12 with a ONE none fades", () -> {
            BenchMemories x = Gardens.days(new BenchMemories(), 99);
            for (int one = 0; one < 8; one++) {
                b.is("memory of " + one, x.told(50 + one), one);
            }
        });
        b.test("12 who gets it at the last, and leaves it again, leaves it FRESH by 9", () -> {
            BenchMemories x = new BenchMemories();
            x.forget(0);
            x.lay(8, 0, 2);
            Gardens.saying(x, ".A_A_");
            b.is("fresh", x.lies(0, 1), 9);
            Gardens.anew(x, "..A_");
            b.is("an evening late", x.judge(1), 3);
        });
    }

    private static void refusedByDays(String call, ToLongFunction<BenchMemories> ask) {
        b.is(call + ", a fault", ask.applyAsLong(Gardens.faulty()), NO);
        b.is(call + ", an act that can not be", ask.applyAsLong(Gardens.stuck()), STATE);
        b.is(call + ", both", ask.applyAsLong(Gardens.saying("A0A")), NO);
        b.changesNothing(call, ask);
    }

    private static void behind() {
        b.test("11 an empty PAD: as it is now", () -> {
            BenchMemories x = new BenchMemories();
            x.forget(3);
            for (int one = 0; one < 8; one++) {
                b.is("bench of " + one, x.behind(one, 0), one);
                b.is("memory of " + one, x.behind(one, 1), one == 3 ? NONE : one);
            }
        });
        b.test("11 the least and the greatest BENCH", () -> {
            BenchMemories x = Gardens.ways(new BenchMemories(), 0, 9);
            b.is("of A", Gardens.saying(x, "A9").behind(0, 0), 9);
            b.is("of A, back", Gardens.saying(x, "A0").behind(0, 0), 0);
        });
        b.test("11 'UNKNOWN', before OUTSIDE, NO and STATE", () -> {
            for (int out : Bounds.NO_ONE) {
                b.refused("behind(" + out + ", 0)", x -> x.behind(out, 0), UNKNOWN);
                b.refused("behind(" + out + ", 2)", x -> x.behind(out, 2), UNKNOWN);
            }
            b.refused("behind(MAX, MIN)", x -> x.behind(MAX, MIN), UNKNOWN);
        });
        b.test("11 'OUTSIDE', before NO and STATE", () -> {
            for (int what : Bounds.NO_BIT) {
                b.refused("behind(0, " + what + ")", x -> x.behind(0, what), OUTSIDE);
                b.refused("behind(7, " + what + ")", x -> x.behind(7, what), OUTSIDE);
            }
        });
        b.test("11 'NO, STATE, as of judge(2)'", () -> {
            refusedByDays("behind(0, 0)", x -> x.behind(0, 0));
            refusedByDays("behind(7, 1)", x -> x.behind(7, 1));
        });
    }

    private static void lies() {
        b.test("12 an empty PAD: as it is now, nothing on any BENCH, something on all", () -> {
            BenchMemories x = new BenchMemories();
            for (int bench = 0; bench < 10; bench++) {
                b.is("on " + bench, x.lies(bench, 0), NONE);
                b.is("fresh on " + bench, x.lies(bench, 1), NONE);
            }
            for (int bench = 0; bench < 10; bench++) {
                x.lay(11 - bench, bench, 9);
            }
            for (int bench = 0; bench < 10; bench++) {
                b.is("on " + bench, x.lies(bench, 0), 11 - bench);
                b.is("fresh on " + bench, x.lies(bench, 1), 9);
            }
        });
        b.test("12 MEMORY 0 is not nothing, and is FRESH by 1 at the least", () -> {
            BenchMemories x = new BenchMemories();
            x.lay(0, 9, 2);
            x.say('.');
            b.is("lies", x.lies(9, 0), 0);
            b.is("fresh", x.lies(9, 1), 1);
            x.say('.');
            b.is("lies no more", x.lies(9, 0), NONE);
            b.is("not fresh by 0", x.lies(9, 1), NONE);
        });
        b.test("12 'UNKNOWN', before OUTSIDE, NO and STATE", () -> {
            for (int out : Bounds.NO_BENCH) {
                b.refused("lies(" + out + ", 0)", x -> x.lies(out, 0), UNKNOWN);
                b.refused("lies(" + out + ", -1)", x -> x.lies(out, -1), UNKNOWN);
            }
            b.refused("lies(MIN, MAX)", x -> x.lies(MIN, MAX), UNKNOWN);
        });
        b.test("12 'OUTSIDE', before NO and STATE", () -> {
            for (int what : Bounds.NO_BIT) {
                b.refused("lies(0, " + what + ")", x -> x.lies(0, what), OUTSIDE);
                b.refused("lies(9, " + what + ")", x -> x.lies(9, what), OUTSIDE);
            }
        });
        b.test("12 'NO, STATE, likewise'", () -> {
            refusedByDays("lies(9, 0)", x -> x.lies(9, 0));
            refusedByDays("lies(0, 1)", x -> x.lies(0, 1));
        });
    }

    private static void hands() {
        b.test("13 an empty PAD: through none, and who has it now", () -> {
            BenchMemories x = new BenchMemories();
            x.lay(8, 8, 1);
            for (int memory = 0; memory < 12; memory++) {
                b.is("hands of " + memory, x.hands(memory, 0), 0);
                b.is("who has " + memory, x.hands(memory, 1), memory < 8 ? memory : NONE);
            }
        });
        b.test("13 'how often a ONE came to remember it': not who leaves it, nor who confesses it", () -> {
            BenchMemories x = Gardens.saying("A_B!");
            b.is("left", x.hands(0, 0), 0);
            b.is("confessed", x.hands(1, 0), 0);
            b.is("got again", Gardens.saying(x, "A_").hands(0, 0), 1);
        });
        b.test("13 '(x)': both go through a hand, or the one that there is", () -> {
            BenchMemories x = new BenchMemories();
            x.stand(7, 0);
            Gardens.saying(x, "AxH");
            b.is("of A", x.hands(0, 0), 1);
            b.is("of H", x.hands(7, 0), 1);
            Gardens.anew(x, "A!AxH");
            b.is("confessed", x.hands(0, 0), 0);
            b.is("the one that there is", x.hands(7, 0), 1);
            b.is("who has it", x.hands(7, 1), 0);
        });
        b.test("13 as many as the PAD has room for", () -> {
            BenchMemories x = new BenchMemories();
            x.stand(1, 0);
            b.is("twenty changes", Gardens.saying(x, "AxB".repeat(20)).hands(1, 0), 20);
            b.is("of the other", x.hands(0, 0), 20);
            b.is("thirty sittings", Gardens.anew(x, "A_".repeat(30)).hands(0, 0), 15);
            x.lay(11, 0, 9);
            b.is("thirty sittings, two memories", Gardens.anew(x, "A_".repeat(30)).hands(11, 0), 15);
            b.is("the other", x.hands(0, 0), 15);
        });
        b.test("13 'in the text': not what was DONE before, nor what was given", () -> {
            BenchMemories x = Gardens.saying("A_A_");
            b.is("done", x.done(), 2);
            b.is("hands", x.hands(0, 0), 0);
            x.give(0, 5);
            b.is("given", x.hands(0, 0), 0);
            b.is("who has it", x.hands(0, 1), 5);
        });
        b.test("13 'who has it (NONE)': on a BENCH, nowhere, faded", () -> {
            BenchMemories x = new BenchMemories();
            x.lay(8, 8, 1);
            Gardens.saying(x, "A_B!.");
            b.is("on a bench", x.hands(0, 1), NONE);
            b.is("confessed", x.hands(1, 1), NONE);
            b.is("faded", x.hands(8, 1), NONE);
            b.is("never anywhere", x.hands(11, 1), NONE);
        });
        b.test("13 'UNKNOWN', before OUTSIDE, NO and STATE", () -> {
            for (int out : Bounds.NO_MEMORY) {
                b.refused("hands(" + out + ", 0)", x -> x.hands(out, 0), UNKNOWN);
                b.refused("hands(" + out + ", 2)", x -> x.hands(out, 2), UNKNOWN);
            }
            b.refused("hands(MIN, MIN)", x -> x.hands(MIN, MIN), UNKNOWN);
        });
        b.test("13 'OUTSIDE', before NO and STATE", () -> {
            for (int what : Bounds.NO_BIT) {
                b.refused("hands(0, " + what + ")", x -> x.hands(0, what), OUTSIDE);
                b.refused("hands(11, " + what + ")", x -> x.hands(11, what), OUTSIDE);
            }
        });
        b.test("13 'NO, STATE, likewise'", () -> {
            refusedByDays("hands(0, 0)", x -> x.hands(0, 0));
            refusedByDays("hands(11, 1)", x -> x.hands(11, 1));
        });
    }

    private static void most() {
        b.test("14 'NONE: none through any'", () -> {
            b.is("an empty pad", new BenchMemories().most(), NONE);
            b.is("left and confessed", Gardens.saying("A_B_C!#4.").most(), NONE);
        });
        b.test("14 'the least of several': the least and the greatest MEMORY", () -> {
            BenchMemories x = new BenchMemories();
            x.give(11, 1);
            x.stand(1, 0);
            b.is("both once", Gardens.saying(x, "AxB").most(), 0);
            b.is("both twice", Gardens.saying(x, "AxB").most(), 0);
            b.is("11 once more", Gardens.saying(x, "B_B_").most(), 11);
            b.is("as often again", Gardens.saying(x, "A_A_").most(), 0);
        });
        b.test("14 'went through most hands', where it is now does not matter", () -> {
            BenchMemories x = new BenchMemories();
            x.stand(5, 0);
            b.is("confessed", Gardens.saying(x, "AxFA!F_F_.").most(), 0);
            b.is("confessed twice gone", Gardens.anew(x, "F_F_F!").most(), 5);
        });
        b.test("14 'NO, STATE, likewise'", () -> refusedByDays("most()", BenchMemories::most));
    }

    private static void done() {
        b.test("15 an empty PAD: no ACTS, nothing is changed", () -> {
            BenchMemories x = new BenchMemories();
            b.is("done", x.done(), 0);
            b.same("all", Picture.now(x), Picture.now(new BenchMemories()));
        });
        b.test("15 'ACTS': as many as the PAD has room for", () -> {
            BenchMemories x = new BenchMemories();
            b.is("thirty", Gardens.saying(x, "#0".repeat(30)).done(), 30);
            b.is("an even number of times", x.told(1), 0);
            b.is("sixty", Gardens.saying(x, Gardens.SIXTY_EVENINGS).done(), 60);
            b.is("the day", x.told(2), 60);
            b.is("as many as there are days", Gardens.saying(x, ".".repeat(39)).done(), 39);
            b.is("the last day", x.told(2), 99);
        });
        b.test("15 '(the PAD is empty then)'", () -> {
            BenchMemories x = Gardens.saying("A!");
            b.is("done", x.done(), 1);
            b.is("signs", x.told(0), 0);
            b.is("fault", x.fault(), NONE);
            b.is("done again", x.done(), 0);
            b.is("wipe", x.wipe(), 0);
        });
        b.test("15 'DAYS are DONE': what was told as behind them is so then", () -> {
            BenchMemories x = Gardens.lively();
            BenchMemories y = Gardens.lively();
            b.is("done", y.done(), 4);
            for (int one = 0; one < 8; one++) {
                b.is("bench of " + one, y.told(40 + one), x.behind(one, 0));
                b.is("memory of " + one, y.told(50 + one), x.behind(one, 1));
            }
            for (int bench = 0; bench < 10; bench++) {
                b.is("on " + bench, y.told(20 + bench), x.lies(bench, 0));
                b.is("fresh on " + bench, y.told(30 + bench), x.lies(bench, 1));
                b.is("ways from " + bench, y.told(10 + bench), x.told(10 + bench));
            }
            b.is("sights", y.told(3), x.told(3));
            b.same("images", Picture.images(y), Picture.images(x));
        });
    }

    private static void doneRefused() {
        b.test("15 'NO, STATE, likewise': nothing is DONE, the PAD is as it was", () -> {
            refusedDone(Gardens::faulty, NO);
            refusedDone(Gardens::stuck, STATE);
            refusedDone(() -> Gardens.saying("A0A"), NO);
            refusedDone(() -> Gardens.saying(".".repeat(59) + "A"), NO);
            refusedDone(() -> Gardens.saying(".".repeat(58) + "A0"), STATE);
        });
        b.test("15 not even what could be, before what can not", () -> {
            BenchMemories x = Gardens.saying("A!#4.B_B5");
            b.is("done", x.done(), STATE);
            b.same("all", Picture.now(x), Picture.now(Gardens.saying("A!#4.B_B5")));
            Gardens.saying(x, "C");
            b.is("done, with a fault", x.done(), NO);
            b.same("all", Picture.now(x), Picture.now(Gardens.saying("A!#4.B_B5C")));
        });
    }

    private static void refusedDone(Supplier<BenchMemories> make, long want) {
        BenchMemories x = make.get();
        b.is("done", x.done(), want);
        b.same("all", Picture.now(x), Picture.now(make.get()));
        b.same("images", Picture.images(x), Picture.images(make.get()));
    }

    private static void steps() {
        b.test("16 to itself none, whether ways lead from it or not", () -> {
            BenchMemories x = Gardens.ways(new BenchMemories(), 0, 9);
            for (int bench = 0; bench < 10; bench++) {
                b.is("from " + bench, x.steps(bench, bench), 0);
            }
        });
        b.test("16 'the fewest WAYS from one BENCH to another one': from one to nine", () -> {
            BenchMemories x = Gardens.oneBehindAnother();
            for (int from = 0; from < 10; from++) {
                for (int to = 0; to < 10; to++) {
                    b.is(from + " to " + to, x.steps(from, to), Math.abs(from - to));
                }
            }
            x.way(0, 9, true);
            for (int from = 0; from < 10; from++) {
                for (int to = 0; to < 10; to++) {
                    int along = Math.abs(from - to);
                    b.is("round, " + from + " to " + to, x.steps(from, to), Math.min(along, 10 - along));
                }
            }
        });
        b.test("16 'NONE'", () -> {
            BenchMemories x = Gardens.oneBehindAnother();
            x.way(4, 5, false);
            for (int from = 0; from < 10; from++) {
                for (int to = 0; to < 10; to++) {
                    boolean apart = from < 5 != to < 5;
                    b.is(from + " to " + to, x.steps(from, to), apart ? NONE : Math.abs(from - to));
                }
            }
        });
        b.test("16 all WAYS", () -> {
            BenchMemories x = Gardens.everyWay(new BenchMemories());
            for (int from = 0; from < 10; from++) {
                b.is("from " + from, x.steps(from, 9 - from), 1);
            }
        });
        b.test("16 'UNKNOWN: both'", () -> {
            for (int out : Bounds.NO_BENCH) {
                b.refused("steps(" + out + ", 0)", x -> x.steps(out, 0), UNKNOWN);
                b.refused("steps(9, " + out + ")", x -> x.steps(9, out), UNKNOWN);
                b.refused("steps(" + out + ", " + out + ")", x -> x.steps(out, out), UNKNOWN);
            }
        });
        b.test("16 cushions, people and the PAD do not matter", () -> {
            BenchMemories x = Gardens.oneBehindAnother();
            Gardens.saying(x, "#1#2#3").done();
            b.is("0 to 9", x.steps(0, 9), 9);
            b.is("with a fault", Gardens.saying(x, "A").steps(0, 9), 9);
        });
    }
}
