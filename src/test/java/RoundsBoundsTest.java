/** The bounds of promises 17 to 20: getting, rounds, walks, all right. */
public final class RoundsBoundsTest {
    private static final int MIN = Integer.MIN_VALUE, MAX = Integer.MAX_VALUE;
    private static final int UNKNOWN = -1, OUTSIDE = -2, STATE = -3, NONE = -6;
    private static final int ALL = 1023;

    private static final Bounds b = new Bounds("RoundsBoundsTest");

    public static void main(String[] args) {
        got();
        notGot();
        getRefused();
        rounds();
        noRounds();
        roundRefused();
        walks();
        noWalks();
        walkRefused();
        rights();
        rightFirst();
        rightRefused();
        b.end();
    }

    private static void got() {
        b.test("17 '(steps, and then sitting)': from one ACT, where he is, to ten", () -> {
            BenchMemories x = Gardens.oneBehindAnother();
            for (int bench = 0; bench < 10; bench++) {
                x.lay(11, bench, 1);
                b.is("A gets what lies on " + bench, x.get(0, 11), bench + 1);
                b.is("H gets what lies on " + bench, x.get(7, 11), Math.abs(7 - bench) + 1);
            }
        });
        b.test("17 the least and the greatest ONE and MEMORY", () -> {
            BenchMemories x = new BenchMemories();
            x.lay(0, 7, 9);
            x.lay(11, 0, 9);
            b.is("H, a", x.get(7, 0), 1);
            b.is("A, l", x.get(0, 11), 1);
        });
        b.test("17 'alone': what he and others remember, and who stands by, do not matter", () -> {
            BenchMemories x = Gardens.ways(new BenchMemories(), 0, 1);
            x.lay(8, 1, 1);
            b.is("he remembers, B stands there", x.get(0, 8), 2);
            x.forget(0);
            b.is("he remembers nothing", x.get(0, 8), 2);
            x.stand(0, 1);
            b.is("he is there", x.get(0, 8), 1);
        });
        b.test("17 what was his own is got like another's", () -> {
            BenchMemories x = new BenchMemories();
            x.lay(0, 0, 9);
            b.is("his own", x.get(0, 0), 1);
        });
        b.test("17 '(As things are now.)': not as behind the PAD, be there a FAULT or not", () -> {
            BenchMemories x = Gardens.ways(new BenchMemories(), 0, 1);
            x.lay(8, 1, 9);
            b.is("he would have it", Gardens.saying(x, "A1A_").get(0, 8), 2);
            b.is("a fault", Gardens.saying(x, "x").get(0, 8), 2);
        });
    }

    private static void notGot() {
        b.test("17 'NONE (no WAY'", () -> {
            BenchMemories x = Gardens.oneBehindAnother();
            x.lay(8, 9, 9);
            b.is("there are ways", x.get(0, 8), 10);
            x.way(8, 9, false);
            b.is("there are none", x.get(0, 8), NONE);
            x.stand(0, 9);
            b.is("he needs none", x.get(0, 8), 1);
        });
        b.test("17 'NONE (.. a CUSHION)': on the BENCH where it lies", () -> {
            for (int bench = 0; bench < 10; bench++) {
                BenchMemories x = Gardens.oneBehindAnother();
                x.lay(8, bench, 9);
                Gardens.saying(x, "#" + bench).done();
                b.is("laid on " + bench, x.get(0, 8), NONE);
                Gardens.saying(x, "#" + bench).done();
                b.is("taken from " + bench, x.get(0, 8), bench + 1);
            }
        });
        b.test("17 a CUSHION by the way, or where he is, keeps him from nothing", () -> {
            BenchMemories x = Gardens.oneBehindAnother();
            x.lay(8, 9, 9);
            Gardens.saying(x, "#0#1#2#3#4#5#6#7#8").done();
            b.is("all but the last", x.get(0, 8), 10);
        });
    }

    private static void getRefused() {
        b.test("17 'UNKNOWN: both', before STATE", () -> {
            for (int out : Bounds.NO_ONE) {
                b.refused("get(" + out + ", 0)", x -> x.get(out, 0), UNKNOWN);
            }
            for (int out : Bounds.NO_MEMORY) {
                b.refused("get(7, " + out + ")", x -> x.get(7, out), UNKNOWN);
            }
            b.refused("get(MIN, MAX)", x -> x.get(MIN, MAX), UNKNOWN);
        });
        b.test("17 'STATE: it does not lie on a BENCH': with him, with another, nowhere", () -> {
            BenchMemories x = Gardens.everyWay(new BenchMemories());
            b.is("with him", x.get(0, 0), STATE);
            b.is("with another", x.get(0, 7), STATE);
            for (int memory = 8; memory < 12; memory++) {
                b.is("nowhere", x.get(0, memory), STATE);
            }
            x.lay(8, 0, 1);
            Gardens.days(x, 1);
            b.is("faded", x.get(0, 8), STATE);
        });
        b.test("17 'STATE', where there is no WAY and a CUSHION too", () -> {
            BenchMemories x = Gardens.saying("#0#7");
            x.done();
            b.is("with another", x.get(0, 7), STATE);
        });
        b.test("17 nothing is changed by asking", () -> b.changesNothing("get(0, 8)", x -> x.get(0, 8)));
    }

    private static void rounds() {
        b.test("18 a set of none, of itself alone: no steps", () -> {
            BenchMemories x = new BenchMemories();
            for (int bench = 0; bench < 10; bench++) {
                b.is("none, from " + bench, x.round(bench, 0), 0);
                b.is("itself, from " + bench, x.round(bench, 1 << bench), 0);
            }
        });
        b.test("18 'the set 0 to 1023': all BENCHES, from each", () -> {
            for (int bench = 0; bench < 10; bench++) {
                BenchMemories x = Gardens.oneBehindAnother();
                b.is("there and back from " + bench, x.round(bench, ALL), 18);
                x.way(9, 0, true);
                b.is("round from " + bench, x.round(bench, ALL), 10);
                Gardens.everyWay(x);
                b.is("every way from " + bench, x.round(bench, ALL), 10);
            }
        });
        b.test("18 one BENCH: there and back, from each to each", () -> {
            BenchMemories x = Gardens.oneBehindAnother();
            x.way(0, 9, true);
            for (int from = 0; from < 10; from++) {
                for (int to = 0; to < 10; to++) {
                    b.is(from + " and " + to, x.round(from, 1 << to), 2 * x.steps(from, to));
                }
            }
        });
        b.test("18 whether the BENCH where it begins is in the set does not matter", () -> {
            BenchMemories x = Gardens.oneBehindAnother();
            for (int set = 0; set < 1024; set += 97) {
                b.is("set " + set, x.round(5, set | 1 << 5), x.round(5, set & ~(1 << 5)));
            }
        });
        b.test("18 'in some order': not the one of their numbers", () -> {
            BenchMemories x = Gardens.ways(new BenchMemories(), 0, 5, 5, 1, 1, 9, 9, 2, 2, 0);
            b.is("round by 5, 1, 9, 2", x.round(0, 1 << 1 | 1 << 2 | 1 << 5 | 1 << 9), 5);
            b.is("1 and 2, and back", x.round(0, 1 << 1 | 1 << 2), 5);
            b.is("5 and 2, one at each side", x.round(0, 1 << 5 | 1 << 2), 4);
        });
        b.test("18 a BENCH can be passed twice, and one that is not in the set", () -> {
            BenchMemories x = Gardens.ways(new BenchMemories(), 4, 0, 4, 1, 4, 2, 4, 3, 4, 5, 4, 6, 4, 7, 4, 8, 4, 9);
            b.is("all, from the middle", x.round(4, ALL), 18);
            b.is("all, from an end", x.round(0, ALL), 18);
            b.is("two others, from an end", x.round(0, 1 << 8 | 1 << 9), 6);
        });
    }

    private static void noRounds() {
        b.test("18 'NONE': one of the set can not be reached", () -> {
            BenchMemories x = Gardens.oneBehindAnother();
            x.way(8, 9, false);
            b.is("all", x.round(0, ALL), NONE);
            b.is("the one alone", x.round(0, 1 << 9), NONE);
            b.is("all others", x.round(0, ALL & ~(1 << 9)), 16);
            b.is("from the one", x.round(9, ALL), NONE);
            b.is("from the one, by itself", x.round(9, 1 << 9), 0);
        });
        b.test("18 'NONE': no WAYS at all", () -> {
            BenchMemories x = new BenchMemories();
            for (int bench = 0; bench < 10; bench++) {
                b.is("all, from " + bench, x.round(bench, ALL), NONE);
                b.is("the next, from " + bench, x.round(bench, 1 << (bench + 1) % 10), NONE);
            }
        });
    }

    private static void roundRefused() {
        b.test("18 'UNKNOWN', before OUTSIDE", () -> {
            for (int out : Bounds.NO_BENCH) {
                b.refused("round(" + out + ", 0)", x -> x.round(out, 0), UNKNOWN);
                b.refused("round(" + out + ", 1024)", x -> x.round(out, 1024), UNKNOWN);
                b.refused("round(" + out + ", MIN)", x -> x.round(out, MIN), UNKNOWN);
            }
        });
        b.test("18 'OUTSIDE: the set 0 to 1023'", () -> {
            for (int set : new int[] {-1, 1024, 1025, MIN, MAX}) {
                b.refused("round(0, " + set + ")", x -> x.round(0, set), OUTSIDE);
                b.refused("round(9, " + set + ")", x -> x.round(9, set), OUTSIDE);
            }
        });
        b.test("18 nothing is changed by asking", () -> b.changesNothing("round(0, 31)", x -> x.round(0, 31)));
    }

    private static void walks() {
        b.test("19 all WAYS: nine steps, by all others as they are numbered", () -> {
            BenchMemories x = Gardens.everyWay(new BenchMemories());
            for (int bench = 0; bench < 10; bench++) {
                StringBuilder others = new StringBuilder("0123456789").deleteCharAt(bench);
                b.is("steps from " + bench, x.walk(bench, 0), 9);
                b.is("which from " + bench, x.walk(bench, 1), Integer.parseInt(others.toString()));
            }
        });
        b.test("19 'as a number': the greatest, and one with nothing before its first digit", () -> {
            BenchMemories x = Gardens.ways(Gardens.oneBehindAnother(), 0, 9);
            x.way(0, 1, false);
            b.is("0, then 9 to 1", x.walk(0, 1), 987654321);
            b.is("from 1", x.walk(1, 1), 234567890);
            BenchMemories y = Gardens.ways(Gardens.oneBehindAnother(), 0, 9);
            y.way(8, 9, false);
            b.is("9, then 0 to 8", y.walk(9, 1), 12345678);
            b.is("nine steps", y.walk(9, 0), 9);
        });
        b.test("19 one step to BENCH 0 is told as 0, none too", () -> {
            BenchMemories x = Gardens.ways(new BenchMemories(), 8, 0);
            b.is("which", x.walk(8, 1), 0);
            b.is("steps", x.walk(8, 0), 1);
            b.is("none, which", x.walk(7, 1), 0);
            b.is("none, steps", x.walk(7, 0), 0);
        });
        b.test("19 'the longest', and not the first that leads on", () -> {
            BenchMemories x = Gardens.oneBehindAnother();
            b.is("from 4", x.walk(4, 1), 56789);
            b.is("from 5", x.walk(5, 1), 43210);
            x.way(8, 9, false);
            b.is("as long to both sides: the first", x.walk(4, 1), 3210);
            b.is("as long to both sides: steps", x.walk(4, 0), 4);
        });
        b.test("19 'on which no BENCH is twice': a ring and its tail", () -> {
            BenchMemories x = Gardens.ways(new BenchMemories(), 0, 1, 1, 2, 2, 0, 2, 3);
            b.is("from the tail", x.walk(3, 1), 201);
            b.is("from the ring", x.walk(0, 1), 123);
            b.is("from where they meet", x.walk(2, 1), 1);
            b.is("from where they meet, steps", x.walk(2, 0), 2);
        });
        b.test("19 cushions and the PAD do not matter", () -> {
            BenchMemories x = Gardens.ways(new BenchMemories(), 0, 1, 1, 2);
            Gardens.saying(x, "#0#1#2").done();
            b.is("cushions", x.walk(0, 1), 12);
            b.is("a fault", Gardens.saying(x, "A").walk(0, 1), 12);
        });
        b.test("19 of WAYS as they are now, and not as they were when it was asked before", () -> {
            BenchMemories x = Gardens.everyWay(new BenchMemories());
            b.is("all", x.walk(0, 0), 9);
            for (int other = 0; other < 9; other++) {
                x.way(9, other, false);
            }
            b.is("9 is left out", x.walk(0, 1), 12345678);
            b.is("from 9", x.walk(9, 0), 0);
        });
    }

    private static void noWalks() {
        b.test("19 '(0, if there is none)'", () -> {
            BenchMemories x = new BenchMemories();
            for (int bench = 0; bench < 10; bench++) {
                b.is("steps from " + bench, x.walk(bench, 0), 0);
                b.is("which from " + bench, x.walk(bench, 1), 0);
            }
        });
    }

    private static void walkRefused() {
        b.test("19 'UNKNOWN', before OUTSIDE", () -> {
            for (int out : Bounds.NO_BENCH) {
                b.refused("walk(" + out + ", 0)", x -> x.walk(out, 0), UNKNOWN);
                b.refused("walk(" + out + ", 2)", x -> x.walk(out, 2), UNKNOWN);
            }
            b.refused("walk(MAX, MIN)", x -> x.walk(MAX, MIN), UNKNOWN);
        });
        b.test("19 'OUTSIDE'", () -> {
            for (int what : Bounds.NO_BIT) {
                b.refused("walk(0, " + what + ")", x -> x.walk(0, what), OUTSIDE);
                b.refused("walk(9, " + what + ")", x -> x.walk(9, what), OUTSIDE);
            }
        });
        b.test("19 nothing is changed by asking", () -> b.changesNothing("walk(0, 1)", x -> x.walk(0, 1)));
    }

    private static void right(int row, int often, int first) {
        BenchMemories x = new BenchMemories();
        b.is("how often of " + row, x.right(row, 0), often);
        b.is("where first of " + row, x.right(row, 1), first);
    }

    private static void rights() {
        b.test("20 all right already: never, nowhere", () -> right(123456, 0, NONE));
        b.test("20 one sitting, on each bench", () -> {
            right(1023456, 1, 1);
            right(2103456, 1, 2);
            right(3120456, 1, 3);
            right(4123056, 1, 4);
            right(5123406, 1, 5);
            right(6123450, 1, 6);
        });
        b.test("20 two benches changed with each other: he must take from one and come back", () -> {
            right(213456, 3, 1);
            right(123465, 3, 5);
            right(623451, 3, 1);
        });
        b.test("20 the most sittings", () -> {
            right(214365, 9, 1);
            right(654321, 9, 1);
        });
        b.test("20 one ring of all seven", () -> {
            right(1234560, 6, 1);
            right(6012345, 6, 6);
        });
        b.test("20 the greatest row", () -> right(6543210, 7, 1));
    }

    private static void rightFirst() {
        b.test("20 'where he sits first, the least': where his own belongs, and not where it is wrong", () -> {
            right(2013456, 2, 2);
            right(6123405, 2, 6);
            right(5123460, 2, 5);
        });
        b.test("20 'the least' of where his own belongs and another ring", () -> {
            right(3120546, 4, 3);
            right(5213406, 4, 1);
            right(1023465, 4, 1);
            right(6132450, 4, 2);
        });
        b.test("20 of a ring without him any bench would do: the least", () -> {
            right(125634, 6, 3);
            right(123564, 4, 4);
            right(123645, 4, 4);
        });
    }

    private static void rightRefused() {
        b.test("20 'seven digits (0 to 6, each once)': each number of up to seven digits", () -> {
            BenchMemories x = new BenchMemories();
            int taken = 0;
            long unlike = 0;
            for (int row = 0; row <= 9999999; row++) {
                if (row % 500 == 0) {
                    x = new BenchMemories();
                }
                boolean isTaken = x.right(row, 0) != OUTSIDE;
                taken += isTaken ? 1 : 0;
                unlike += isTaken == isRow(row) ? 0 : 1;
            }
            b.is("rows", taken, 5040);
            b.is("numbers taken that are no rows, or rows that are not", unlike, 0);
        });
        b.test("20 'OUTSIDE: a row that is none': too small, too large, eight digits", () -> {
            int[] none = {-1, 0, 123455, 123457, 6543209, 6543211, 7654321, 10123456, 60123456,
                    -123456, -6543210, 123456 + 10000000, 1234567890, MIN, MIN + 123456, MAX};
            for (int row : none) {
                b.refused("right(" + row + ", 0)", x -> x.right(row, 0), OUTSIDE);
                b.refused("right(" + row + ", 1)", x -> x.right(row, 1), OUTSIDE);
            }
        });
        b.test("20 'OUTSIDE: .. what'", () -> {
            for (int what : Bounds.NO_BIT) {
                b.refused("right(123456, " + what + ")", x -> x.right(123456, what), OUTSIDE);
                b.refused("right(6543210, " + what + ")", x -> x.right(6543210, what), OUTSIDE);
                b.refused("right(0, " + what + ")", x -> x.right(0, what), OUTSIDE);
            }
        });
        b.test("20 'all things aside': nothing of the garden matters, nothing is changed", () -> {
            b.is("in a full garden", Gardens.full().right(6543210, 0), 7);
            b.changesNothing("right(6543210, 0)", x -> x.right(6543210, 0));
            b.changesNothing("right(6543210, 1)", x -> x.right(6543210, 1));
        });
    }

    private static boolean isRow(int number) {
        int seen = 0;
        int rest = number;
        for (int digit = 0; digit < 7; digit++) {
            seen |= 1 << rest % 10;
            rest /= 10;
        }
        return seen == 127;
    }
}
