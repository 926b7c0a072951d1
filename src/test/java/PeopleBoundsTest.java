/** The bounds of promises 1 to 9: a new object, ways, people, memories, the pad and its fault. */
public final class PeopleBoundsTest {
    private static final int MIN = Integer.MIN_VALUE, MAX = Integer.MAX_VALUE;
    private static final int UNKNOWN = -1, OUTSIDE = -2, STATE = -3, FULL = -4, NONE = -6;

    private static final Bounds b = new Bounds("PeopleBoundsTest");

    public static void main(String[] args) {
        newObject();
        wayTaken();
        wayRefused();
        standTaken();
        standRefused();
        giveTaken();
        giveRefused();
        layTaken();
        layRefused();
        forgetTaken();
        forgetRefused();
        sayTaken();
        sayRefused();
        wiped();
        faults();
        faultsAtTheEnds();
        b.end();
    }

    private static void newObject() {
        b.test("1 'No WAYS'", () -> {
            BenchMemories x = new BenchMemories();
            for (int bench = 0; bench < 10; bench++) {
                b.is("told(1" + bench + ")", x.told(10 + bench), 0);
                b.is("steps to 0 from " + bench, x.steps(bench, 0), bench == 0 ? 0 : NONE);
            }
        });
        b.test("1 'each ONE has his own'", () -> {
            BenchMemories x = new BenchMemories();
            for (int one = 0; one < 8; one++) {
                b.is("told(5" + one + ")", x.told(50 + one), one);
                b.is("place of " + one, x.told(100 + one), one);
            }
        });
        b.test("1 'each stand at a BENCH (that of their own number, at first)'", () -> {
            BenchMemories x = new BenchMemories();
            for (int one = 0; one < 8; one++) {
                b.is("told(4" + one + ")", x.told(40 + one), one);
            }
        });
        b.test("1 '0 to 7 are with ONES of their own number at first, the others nowhere'", () -> {
            BenchMemories x = new BenchMemories();
            b.is("the last with a one", x.told(107), 7);
            b.is("the first nowhere", x.told(108), NONE);
            b.is("the last nowhere", x.told(111), NONE);
            for (int bench = 0; bench < 10; bench++) {
                b.is("on bench " + bench, x.told(20 + bench), NONE);
                b.is("fresh on bench " + bench, x.told(30 + bench), NONE);
            }
        });
        b.test("1 'Some BENCHES have a CUSHION (none at first). It is day 0 at first.'", () -> {
            BenchMemories x = new BenchMemories();
            b.is("cushions", x.told(1), 0);
            b.is("the day", x.told(2), 0);
        });
        b.test("1 a new object has no signs, no sights, no images", () -> {
            BenchMemories x = new BenchMemories();
            b.is("signs", x.told(0), 0);
            b.is("wipe", x.wipe(), 0);
            b.is("sights", x.told(3), 0);
            b.is("clear", x.clear(), 0);
            b.is("image 0", x.restore(0), STATE);
            b.is("image 1", x.restore(1), STATE);
        });
        b.test("1 what is done with one object changes no other", () -> {
            BenchMemories other = new BenchMemories();
            Gardens.full();
            b.same("the other", Picture.now(other), Picture.now(new BenchMemories()));
        });
    }

    private static void wayTaken() {
        b.test("2 'BENCHES 0 to 9': the least and the greatest", () -> {
            BenchMemories x = new BenchMemories();
            b.is("way(0, 9)", x.way(0, 9, true), 1);
            b.is("way(9, 8)", x.way(9, 8, true), 2);
            b.is("way(1, 0)", x.way(1, 0, true), 3);
        });
        b.test("2 'both ways'", () -> {
            BenchMemories x = Gardens.ways(new BenchMemories(), 2, 7);
            b.is("from 2", x.told(12), 1 << 7);
            b.is("from 7", x.told(17), 1 << 2);
            b.is("there again, turned", x.way(7, 2, true), 1);
            b.is("away, turned", x.way(7, 2, false), 0);
            b.is("from 2, away", x.told(12), 0);
            b.is("from 7, away", x.told(17), 0);
        });
        b.test("2 'how many there are': from none to all, and back to none", () -> {
            BenchMemories x = new BenchMemories();
            int count = 0;
            for (int one = 0; one < 10; one++) {
                for (int other = one + 1; other < 10; other++) {
                    b.is("way " + one + other, x.way(one, other, true), ++count);
                }
            }
            b.is("all are there", x.way(9, 0, true), 45);
            for (int bench = 0; bench < 10; bench++) {
                b.is("all from " + bench, x.told(10 + bench), 1023 & ~(1 << bench));
            }
            for (int one = 0; one < 10; one++) {
                for (int other = one + 1; other < 10; other++) {
                    b.is("away " + one + other, x.way(other, one, false), --count);
                }
            }
        });
        b.test("2 '(is true), or none': where none was, none goes", () -> {
            BenchMemories x = new BenchMemories();
            b.is("none in a new object", x.way(0, 1, false), 0);
            x.way(0, 1, true);
            b.is("another is left", x.way(0, 2, false), 1);
            b.is("it leads still", x.told(10), 2);
        });
    }

    private static void wayRefused() {
        b.test("2 'UNKNOWN: both': the one", () -> {
            for (int out : Bounds.NO_BENCH) {
                b.refused("way(" + out + ", 0, true)", x -> x.way(out, 0, true), UNKNOWN);
                b.refused("way(" + out + ", 9, false)", x -> x.way(out, 9, false), UNKNOWN);
            }
        });
        b.test("2 'UNKNOWN: both': the other", () -> {
            for (int out : Bounds.NO_BENCH) {
                b.refused("way(0, " + out + ", true)", x -> x.way(0, out, true), UNKNOWN);
                b.refused("way(9, " + out + ", false)", x -> x.way(9, out, false), UNKNOWN);
            }
        });
        b.test("2 'UNKNOWN: both one'", () -> {
            for (int bench = 0; bench < 10; bench++) {
                int same = bench;
                b.refused("way(" + same + ", " + same + ", true)", x -> x.way(same, same, true), UNKNOWN);
                b.refused("way(" + same + ", " + same + ", false)", x -> x.way(same, same, false), UNKNOWN);
            }
            b.refused("way(10, 10, true)", x -> x.way(10, 10, true), UNKNOWN);
        });
    }

    private static void standTaken() {
        b.test("3 the least and the greatest ONE and BENCH", () -> {
            BenchMemories x = new BenchMemories();
            b.is("stand(0, 9)", x.stand(0, 9), 0);
            b.is("stand(7, 0)", x.stand(7, 0), 7);
            b.is("0 is there", x.told(40), 9);
            b.is("7 is there", x.told(47), 0);
        });
        b.test("3 'at which he did'", () -> {
            BenchMemories x = new BenchMemories();
            for (int bench = 0; bench < 10; bench++) {
                b.is("stand(3, " + bench + ")", x.stand(3, bench), bench == 0 ? 3 : bench - 1);
            }
            b.is("at the same again", x.stand(3, 9), 9);
        });
        b.test("3 all at one BENCH, each with what he remembers, and no way is asked for", () -> {
            BenchMemories x = new BenchMemories();
            x.lay(8, 5, 1);
            for (int one = 0; one < 8; one++) {
                b.is("stand(" + one + ", 5)", x.stand(one, 5), one);
            }
            for (int one = 0; one < 8; one++) {
                b.is("bench of " + one, x.told(40 + one), 5);
                b.is("memory of " + one, x.told(50 + one), one);
            }
            b.is("what lies there", x.told(25), 8);
        });
    }

    private static void standRefused() {
        b.test("3 'UNKNOWN: both': the ONE", () -> {
            for (int out : Bounds.NO_ONE) {
                b.refused("stand(" + out + ", 0)", x -> x.stand(out, 0), UNKNOWN);
            }
        });
        b.test("3 'UNKNOWN: both': the BENCH", () -> {
            for (int out : Bounds.NO_BENCH) {
                b.refused("stand(7, " + out + ")", x -> x.stand(7, out), UNKNOWN);
            }
            b.refused("stand(MIN, MAX)", x -> x.stand(MIN, MAX), UNKNOWN);
        });
    }

    private static void giveTaken() {
        b.test("4 the least and the greatest MEMORY and ONE", () -> {
            BenchMemories x = new BenchMemories();
            b.is("give(0, 7)", x.give(0, 7), 0);
            b.is("7 has it", x.told(57), 0);
            b.is("give(11, 0)", x.give(11, 0), NONE);
            b.is("0 has it", x.told(50), 11);
        });
        b.test("4 'where it was (as told of 100 and it)': with each ONE", () -> {
            for (int one = 0; one < 8; one++) {
                BenchMemories x = new BenchMemories();
                b.is("from " + one, x.give(one, 7 - one), one);
                b.is("who had it has none", x.told(50 + one), NONE);
                b.is("the place", x.told(100 + one), 7 - one);
            }
        });
        b.test("4 'where it was (as told of 100 and it)': on each BENCH", () -> {
            for (int bench = 0; bench < 10; bench++) {
                BenchMemories x = new BenchMemories();
                x.lay(11, bench, 9);
                b.is("from " + bench, x.give(11, 4), 10 + bench);
                b.is("nothing lies there", x.told(20 + bench), NONE);
                b.is("and is not fresh", x.told(30 + bench), NONE);
            }
        });
        b.test("4 'where it was (as told of 100 and it)': nowhere", () -> {
            BenchMemories x = new BenchMemories();
            for (int memory = 8; memory < 12; memory++) {
                b.is("give(" + memory + ", 0)", x.give(memory, 0), NONE);
            }
        });
        b.test("4 '(another one that he had is nowhere then)'", () -> {
            BenchMemories x = new BenchMemories();
            x.give(8, 2);
            b.is("the other one", x.told(102), NONE);
            b.is("he has one alone", x.told(52), 8);
            x.give(3, 2);
            b.is("the second too", x.told(108), NONE);
            b.is("who gave has none", x.told(53), NONE);
        });
        b.test("4 to a ONE who has it already, and to a ONE who has none", () -> {
            BenchMemories x = new BenchMemories();
            b.is("to himself", x.give(6, 6), 6);
            b.is("he has it still", x.told(56), 6);
            x.forget(6);
            b.is("to who has none", x.give(6, 6), NONE);
            b.is("he has it again", x.told(106), 6);
        });
    }

    private static void giveRefused() {
        b.test("4 'UNKNOWN: both': the MEMORY", () -> {
            for (int out : Bounds.NO_MEMORY) {
                b.refused("give(" + out + ", 0)", x -> x.give(out, 0), UNKNOWN);
            }
        });
        b.test("4 'UNKNOWN: both': the ONE", () -> {
            for (int out : Bounds.NO_ONE) {
                b.refused("give(11, " + out + ")", x -> x.give(11, out), UNKNOWN);
            }
            b.refused("give(MAX, MIN)", x -> x.give(MAX, MIN), UNKNOWN);
        });
    }

    private static void layTaken() {
        b.test("5 the least and the greatest MEMORY and BENCH", () -> {
            BenchMemories x = new BenchMemories();
            b.is("lay(0, 9, 5)", x.lay(0, 9, 5), 0);
            b.is("lies on 9", x.told(29), 0);
            b.is("lay(11, 0, 5)", x.lay(11, 0, 5), NONE);
            b.is("lies on 0", x.told(20), 11);
        });
        b.test("5 'FRESH by 1 to 9'", () -> {
            BenchMemories x = new BenchMemories();
            for (int v = 1; v <= 9; v++) {
                b.is("lay(8, 4, " + v + ")", x.lay(8, 4, v), v == 1 ? NONE : 14);
                b.is("fresh", x.told(34), v);
            }
        });
        b.test("5 '(another one that lay there is nowhere then)'", () -> {
            BenchMemories x = new BenchMemories();
            x.lay(8, 4, 9);
            x.lay(9, 4, 1);
            b.is("the other one", x.told(108), NONE);
            b.is("one lies there", x.told(24), 9);
            b.is("as fresh as it is", x.told(34), 1);
            b.is("the other one from nowhere", x.lay(8, 3, 2), NONE);
        });
        b.test("5 'where it was, likewise'", () -> {
            BenchMemories x = new BenchMemories();
            b.is("with a one", x.lay(7, 0, 3), 7);
            b.is("who has none now", x.told(57), NONE);
            for (int bench = 1; bench < 10; bench++) {
                b.is("on the bench before " + bench, x.lay(7, bench, 3), 10 + bench - 1);
                b.is("nothing there now", x.told(20 + bench - 1), NONE);
            }
            b.is("on the same", x.lay(7, 9, 3), 19);
            b.is("it lies there still", x.told(29), 7);
            x.forget(7);
            b.is("nowhere", x.lay(7, 9, 3), NONE);
        });
        b.test("5 one on each BENCH, all BENCHES", () -> {
            BenchMemories x = new BenchMemories();
            for (int bench = 0; bench < 10; bench++) {
                b.is("lay on " + bench, x.lay(11 - bench, bench, 9), bench < 4 ? NONE : 11 - bench);
            }
            for (int bench = 0; bench < 10; bench++) {
                b.is("lies on " + bench, x.told(20 + bench), 11 - bench);
            }
            b.is("an eleventh takes a place", x.lay(0, 5, 9), 0);
            b.is("what lay there", x.told(106), NONE);
        });
        b.test("5 a CUSHION does not matter: nobody sits down", () -> {
            BenchMemories x = Gardens.saying("#4");
            x.done();
            b.is("lay", x.lay(8, 4, 9), NONE);
            b.is("lies", x.told(24), 8);
        });
    }

    private static void layRefused() {
        b.test("5 'UNKNOWN: both': the MEMORY", () -> {
            for (int out : Bounds.NO_MEMORY) {
                b.refused("lay(" + out + ", 0, 1)", x -> x.lay(out, 0, 1), UNKNOWN);
            }
        });
        b.test("5 'UNKNOWN: both': the BENCH", () -> {
            for (int out : Bounds.NO_BENCH) {
                b.refused("lay(11, " + out + ", 9)", x -> x.lay(11, out, 9), UNKNOWN);
            }
        });
        b.test("5 'OUTSIDE': FRESH by less than 1, by more than 9", () -> {
            for (int v : new int[] {0, -1, 10, MIN, MAX}) {
                b.refused("lay(0, 0, " + v + ")", x -> x.lay(0, 0, v), OUTSIDE);
                b.refused("lay(11, 9, " + v + ")", x -> x.lay(11, 9, v), OUTSIDE);
            }
        });
        b.test("5 'the first of these that fits': UNKNOWN before OUTSIDE", () -> {
            b.refused("lay(12, 0, 0)", x -> x.lay(12, 0, 0), UNKNOWN);
            b.refused("lay(0, 10, 10)", x -> x.lay(0, 10, 10), UNKNOWN);
            b.refused("lay(-1, -1, MIN)", x -> x.lay(-1, -1, MIN), UNKNOWN);
            b.refused("lay(MAX, MIN, MAX)", x -> x.lay(MAX, MIN, MAX), UNKNOWN);
        });
    }

    private static void forgetTaken() {
        b.test("6 'A MEMORY is nowhere: where it was, likewise': with each ONE, and nowhere", () -> {
            BenchMemories x = new BenchMemories();
            for (int memory = 0; memory < 12; memory++) {
                b.is("forget(" + memory + ")", x.forget(memory), memory < 8 ? memory : NONE);
                b.is("again", x.forget(memory), NONE);
                b.is("it is nowhere", x.told(100 + memory), NONE);
            }
            for (int one = 0; one < 8; one++) {
                b.is("memory of " + one, x.told(50 + one), NONE);
            }
        });
        b.test("6 'where it was, likewise': on each BENCH", () -> {
            BenchMemories x = new BenchMemories();
            for (int bench = 0; bench < 10; bench++) {
                x.lay(bench, bench, 1);
                b.is("from " + bench, x.forget(bench), 10 + bench);
                b.is("nothing there now", x.told(20 + bench), NONE);
                b.is("and not fresh", x.told(30 + bench), NONE);
            }
        });
        b.test("6 nothing else is nowhere by it", () -> {
            BenchMemories x = new BenchMemories();
            x.forget(8);
            x.forget(11);
            b.same("all else", Picture.now(x), Picture.now(new BenchMemories()));
        });
    }

    private static void forgetRefused() {
        b.test("6 'UNKNOWN'", () -> {
            for (int out : Bounds.NO_MEMORY) {
                b.refused("forget(" + out + ")", x -> x.forget(out), UNKNOWN);
            }
        });
    }

    private static void sayTaken() {
        b.test("7 '(codes 33 to 126)': each", () -> {
            for (int sign = 33; sign <= 126; sign++) {
                BenchMemories x = new BenchMemories();
                b.is("say(" + sign + ")", x.say(sign), 1);
                b.is("signs", x.told(0), 1);
            }
        });
        b.test("7 'how many', 'up to 60 signs'", () -> {
            BenchMemories x = new BenchMemories();
            for (int count = 1; count <= 60; count++) {
                b.is("sign " + count, x.say('~'), count);
            }
            b.is("signs", x.told(0), 60);
        });
        b.test("7 a PAD that is wiped, or DONE, has room for sixty again", () -> {
            BenchMemories x = Gardens.saying(Gardens.SIXTY_EVENINGS);
            x.wipe();
            b.is("wiped", x.say('.'), 1);
            b.is("done", x.done(), 1);
            for (int count = 1; count <= 60; count++) {
                b.is("sign " + count, x.say('#'), count);
            }
            b.is("one too many", x.say('#'), FULL);
        });
    }

    private static void sayRefused() {
        b.test("7 'OUTSIDE', and before FULL", () -> {
            for (int sign : new int[] {32, 127, 0, -1, 33 + 256, 65536 + 65, MIN, MIN + 65, MAX}) {
                b.refused("say(" + sign + ")", x -> x.say(sign), OUTSIDE);
            }
        });
        b.test("7 'FULL'", () -> {
            for (int sign : new int[] {33, '.', 'A', 126}) {
                BenchMemories x = Gardens.full();
                b.is("say(" + sign + ")", x.say(sign), FULL);
                b.same("nothing is changed", Picture.now(x), Picture.now(Gardens.full()));
            }
            b.is("the fifty-ninth is not too many", Gardens.saying(".".repeat(59)).say('.'), 60);
        });
    }

    private static void wiped() {
        b.test("8 'Signs go: how many there were': none, one, sixty", () -> {
            BenchMemories x = new BenchMemories();
            b.is("none", x.wipe(), 0);
            x.say('A');
            b.is("one", x.wipe(), 1);
            b.is("gone", x.told(0), 0);
            Gardens.saying(x, Gardens.SIXTY_EVENINGS);
            b.is("sixty", x.wipe(), 60);
            b.is("none again", x.wipe(), 0);
        });
        b.test("8 what was wiped is no FAULT any more, and is not done", () -> {
            BenchMemories x = Gardens.saying("A!.#5B");
            x.wipe();
            b.is("fault", x.fault(), NONE);
            b.is("done", x.done(), 0);
            b.same("nothing is done", Picture.now(x), Picture.now(new BenchMemories()));
        });
        b.test("8 nothing but the signs goes", () -> {
            BenchMemories x = Gardens.full();
            x.wipe();
            BenchMemories y = Gardens.full();
            b.is("done", y.done(), 30);
            b.is("an even number of times laid: the same cushions", y.told(1), 1023);
            b.same("all else", Picture.now(x), Picture.now(y));
        });
    }

    /** What sign can stand where, all signs at all places: what more must come, or the fault's place. */
    private static void faults() {
        b.test("9 'an empty PAD has no FAULT: no ACTS'", () -> {
            b.is("fault", new BenchMemories().fault(), NONE);
        });
        b.test("9 ACTS begin with 'a ONE's letter A to H', '#', or '.'", () -> {
            everySign("", "ABCDEFGH#", ".");
            everySign("..", "ABCDEFGH#", ".");
            everySign("A0#9BxC", "ABCDEFGH#", ".");
        });
        b.test("9 behind a ONE's letter: a digit, '_', 'x', '!'", () -> {
            everySign("A", "x", "0123456789_!");
            everySign("H", "x", "0123456789_!");
            everySign(".#0C_D", "x", "0123456789_!");
        });
        b.test("9 behind 'x': 'a ONE's letter'", () -> {
            everySign("Ax", "", "ABCDEFGH");
            everySign("B!Hx", "", "ABCDEFGH");
        });
        b.test("9 behind '#': 'a digit'", () -> {
            everySign("#", "", "0123456789");
            everySign("AxA#", "", "0123456789");
        });
        b.test("9 'the first sign that can not stand there', of several", () -> {
            b.is("the first", Gardens.saying("I_A").fault(), 0);
            b.is("not the last", Gardens.saying("A0AIxx!").fault(), 3);
            b.is("before more that must come", Gardens.saying(".x.A").fault(), 1);
        });
        b.test("9 a FAULT has nothing to do with what can be", () -> {
            b.is("no way, nothing to be left", Gardens.saying("A5AxAA!A!").fault(), NONE);
        });
    }

    private static void everySign(String before, String goesOn, String ends) {
        for (char sign = 33; sign <= 126; sign++) {
            long want = before.length();
            if (goesOn.indexOf(sign) >= 0) {
                want = before.length() + 1;
            }
            if (ends.indexOf(sign) >= 0) {
                want = NONE;
            }
            b.is(before + sign, Gardens.saying(before + sign).fault(), want);
        }
    }

    private static void faultsAtTheEnds() {
        b.test("9 'the number of signs, if more must come': from 1 to 60", () -> {
            BenchMemories x = new BenchMemories();
            for (int count = 1; count <= 60; count++) {
                x.say(count % 2 == 1 ? 'A' : '0');
                b.is("of " + count, x.fault(), count % 2 == 1 ? count : NONE);
            }
            b.is("at sixty", Gardens.saying(".".repeat(59) + "H").fault(), 60);
            b.is("at sixty, a change", Gardens.saying(".".repeat(58) + "Hx").fault(), 60);
            b.is("at sixty, a cushion", Gardens.saying(".".repeat(59) + "#").fault(), 60);
        });
        b.test("9 the sixtieth sign can be the FAULT", () -> {
            b.is("at 59", Gardens.saying(".".repeat(59) + "I").fault(), 59);
            b.is("none", Gardens.saying(Gardens.SIXTY_EVENINGS).fault(), NONE);
        });
        b.test("9 'a sign that is said changes what fault() tells', a refused one does not", () -> {
            BenchMemories x = Gardens.saying("Bx");
            b.is("more must come", x.fault(), 2);
            x.say(127);
            x.say(MIN);
            b.is("still", x.fault(), 2);
            x.say('B');
            b.is("it came", x.fault(), NONE);
        });
    }
}
