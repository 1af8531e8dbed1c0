import java.math.BigInteger;
import java.util.Arrays;

/** Promises 24 to 30 and the terms of fractions and lots: each sentence that names an edge, by itself. */
public final class EdgesOfFeltTest {
    public static void main(String[] args) {
        feltAtMost();
        feltBetween();
        feelRefused();
        forget();
        neverAlone();
        neverBits();
        sortsThatWere();
        patiencesThatWere();
        wasRefused();
        askLeast();
        askRefused();
        chanceBySixteenths();
        chanceByItself();
        fractions();
        chanceRefused();
        lotsThatWrap();
        lotsOfCallers();
        yearsInPlace();
        yearsOfNone();
        yearsRefused();
        Edge.end();
    }

    private static ButlerWeather felt(ButlerWeather x, int... daysAndWarmth) {
        for (int i = 0; i + 1 < daysAndWarmth.length; i += 2) {
            x.feel(daysAndWarmth[i], daysAndWarmth[i + 1]);
        }
        return x;
    }

    // ---- promises 24, 25

    private static void feltAtMost() {
        Edge.sentence("FELT, 8 at most");
        ButlerWeather x = Edge.house("r9a9", "");
        for (int i = 1; i <= 8; i++) {
            Edge.due("feel " + i, x.feel(23, 0), i);
            Edge.due("felt", x.count(7), i);
        }
        Edge.due("a ninth", x.feel(23, 0), Edge.FULL);
        Edge.due("felt", x.count(7), 8);
        Edge.due("a ninth that would not fit is not felt", x.feel(0, 40), Edge.FULL);
        Edge.due("all sorts fit still", x.was(0, 0), 15);
        // The eighth counts as the first does.
        x = felt(Edge.house("r9a9", ""), 0, 0, 0, 0, 0, 0, 0, 0, 0, 0, 0, 0, 0, 0, 1, 1);
        Edge.due("the eighth", x.was(0, 1), 0);
        x = felt(Edge.house("r9a9", ""), 1, 1, 0, 0, 0, 0, 0, 0, 0, 0, 0, 0, 0, 0, 0, 0);
        Edge.due("the first", x.was(0, 1), 0);
    }

    private static void feltBetween() {
        Edge.sentence("of a DAY the WARMTH was so much (-40 to 40)");
        ButlerWeather x = new ButlerWeather();
        Edge.due("the least", x.feel(0, -40), 1);
        Edge.due("the most", x.feel(23, 40), 2);
        Edge.due("nought", x.feel(23, 0), 3);
        Edge.due("below the least", x.feel(0, -41), Edge.BAD);
        Edge.due("above the most", x.feel(0, 41), Edge.BAD);
        Edge.due("felt", x.count(7), 3);
    }

    private static void feelRefused() {
        Edge.sentence("FELT more: how many. BAD; FULL.");
        for (int day : Edge.outside(0, 23)) {
            Edge.refusedInAll("feel(" + day + ", 0)", x -> x.feel(day, 0), Edge.BAD);
        }
        for (int warmth : Edge.outside(-40, 40)) {
            Edge.refusedInAll("feel(0, " + warmth + ")", x -> x.feel(0, warmth), Edge.BAD);
        }
        Edge.refused("a ninth", Edge::full, x -> x.feel(0, 0), Edge.FULL);
        Edge.refused("a ninth", Edge::full, x -> x.feel(23, 40), Edge.FULL);
    }

    private static void forget() {
        Edge.sentence("All that was FELT is forgotten: how many.");
        Edge.due("of none", new ButlerWeather().forget(), 0);
        ButlerWeather x = Edge.full();
        Edge.due("of eight", x.forget(), 8);
        Edge.due("felt", x.count(7), 0);
        Edge.due("of none", x.forget(), 0);
        Edge.due("anew", x.feel(0, 0), 1);
        x = felt(Edge.house("r9a9", ""), 0, 40);
        Edge.due("none fits", x.was(0, 0), 0);
        x.forget();
        Edge.due("all fit again", x.was(0, 0), 15);
        Edge.due("callers are there", x.count(0), 1);
        x = felt(Edge.house("r9a9", ""), 0, 40, 0, 40);
        x.forget();
        x.feel(0, 0);
        Edge.due("what was ahead is not felt", x.was(0, 0), 1 + 2 + 8);
    }

    // ---- promise 26

    private static void neverAlone() {
        Edge.sentence("NEVER: CARDS each of which, had it alone not been, makes all that was FELT come out so, as bits.");
        ButlerWeather x = Edge.house("r9a9;f9a9", "bax", 0, 0, 0, 1, 0, 1);
        felt(x, 0, 0);
        Edge.due("without the rain's the frost is in", x.never(), 0);
        x.forget();
        felt(x, 0, -1);
        Edge.due("two for one: each alone makes no difference", x.never(), 2 + 4);
        x.forget();
        felt(x, 0, -3);
        Edge.due("the rain's", x.never(), 1);
        felt(x, 1, -4);
        Edge.due("all that was felt, not some of it", x.never(), 0);
        x = Edge.house("f9a9", "bax", 0, 0);
        felt(x, 0, 0);
        Edge.due("without it nothing is in", x.never(), 1);
        Edge.due("it is there still", x.warmth(0), -3);
        x = felt(Edge.house("f9a9", "bax", 0, 0), 0, -3);
        Edge.due("as it is does not count: one had not been", x.never(), 0);
    }

    private static void neverBits() {
        Edge.sentence("NEVER, as bits.");
        for (int n = 0; n <= 8; n++) {
            ButlerWeather x = new ButlerWeather();
            for (int i = 0; i < n; i++) {
                x.card(i, i);
            }
            Edge.due("nothing felt, " + n + " cards", x.never(), (1 << n) - 1);
            felt(x, 0, 0, 23, 0);
            Edge.due("felt as it is without callers", x.never(), (1 << n) - 1);
            felt(x, 23, 1);
            Edge.due("felt otherwise", x.never(), 0);
        }
        ButlerWeather x = Edge.house("r9a9", "bax", 5, 5, 5, 5, 5, 5, 5, 5, 5, 5, 5, 5, 5, 5, 0, 0);
        felt(x, 0, 0);
        Edge.due("the eighth alone", x.never(), 128);
        Edge.changesNothing("never", ButlerWeather::never);
    }

    // ---- promise 27

    private static void sortsThatWere() {
        Edge.sentence("SORT of a CALLER: 0 r, 1 f, 2 g, 3 s, in place of its own, likewise, as bits.");
        for (String own : new String[] {"r", "f", "g", "s"}) {
            String callers = own + "9a9";
            Edge.due("nothing felt", Edge.house(callers, "bax", 0, 0).was(0, 0), 15);
            Edge.due("as a rain", felt(Edge.house(callers, "bax", 0, 0), 0, -1).was(0, 0), 1);
            Edge.due("as a frost", felt(Edge.house(callers, "bax", 0, 0), 0, -3).was(0, 0), 2);
            Edge.due("as a gale", felt(Edge.house(callers, "bax", 0, 0), 0, -2).was(0, 0), 4);
            Edge.due("as a sunshine, sent on", felt(Edge.house(callers, "bax", 0, 0), 0, 0).was(0, 0), 8);
            Edge.due("by a junior a frost is as a gale", felt(Edge.house(callers, "jax", 0, 0), 0, -2).was(0, 0), 2 + 4);
            Edge.due("by a junior a sunshine as a rain", felt(Edge.house(callers, "jax", 0, 0), 0, -1).was(0, 0), 8);
            Edge.due("by none a gale alone", felt(Edge.house(callers, "", 0, 0), 0, 0).was(0, 0), 1 + 2 + 8);
            Edge.due("no sort makes it so", felt(Edge.house(callers, "bax", 0, 0), 0, 4).was(0, 0), 0);
            Edge.due("felt so and not so", felt(Edge.house(callers, "bax", 0, 0), 0, -1, 0, -2).was(0, 0), 0);
        }
        ButlerWeather x = Edge.house("g1a1;g1a1;g1a1;g1a1;g1a1;g1a1;g1a1;r9a1", "");
        Edge.due("of the eighth", felt(x, 0, -16).was(7, 0), 4);
    }

    private static void patiencesThatWere() {
        Edge.sentence("LONG of a CALLER: 1 to 9, its PATIENCE, in place of its own, likewise, as bits (bit 1 on).");
        for (int own : new int[] {1, 5, 9}) {
            for (int late = 0; late <= 9; late++) {
                String callers = "r" + own + "a9";
                String men = "b" + (char) ('a' + late) + "x";
                int in = 0;
                for (int p = late + 1; p <= 9; p++) {
                    in |= 1 << p;
                }
                Edge.due("nothing felt", Edge.house(callers, men, 0, 0).was(0, 1), 1022);
                Edge.due("it was in", felt(Edge.house(callers, men, 0, 0), late, -1).was(0, 1), in);
                Edge.due("it was not in", felt(Edge.house(callers, men, 0, 0), late, 0).was(0, 1), 1022 & ~in);
                Edge.due("none makes it so", felt(Edge.house(callers, men, 0, 0), late, -2).was(0, 1), 0);
            }
        }
        Edge.due("a gale's is all one", felt(Edge.house("g5a2", ""), 0, -2, 1, -2, 2, 0).was(0, 1), 1022);
        ButlerWeather x = felt(Edge.house("r5a9", "bex", 0, 0), 4, 0);
        Edge.due("its own is as it was", x.caller(0, 1), 5);
    }

    private static void wasRefused() {
        Edge.sentence("SORT (what = 0), LONG (1), as bits. BAD.");
        for (int what = 0; what < 2; what++) {
            int asked = what;
            for (int c : Edge.outside(0, 7)) {
                Edge.refusedInAll("was(" + c + ", " + what + ")", x -> x.was(c, asked), Edge.BAD);
            }
            Edge.refused("behind the last", Edge::some, x -> x.was(3, asked), Edge.BAD);
            Edge.refused("of none", ButlerWeather::new, x -> x.was(0, asked), Edge.BAD);
            Edge.refused("with a fault", Edge::faulty, x -> x.was(0, asked), Edge.BAD);
            Edge.changesNothing("was", x -> x.was(0, asked) + x.was(2, asked));
        }
        for (int what : Edge.outside(0, 1)) {
            Edge.refusedInAll("was(0, " + what + ")", x -> x.was(0, what), Edge.BAD);
        }
    }

    // ---- promise 28

    private static void askLeast() {
        Edge.sentence("ASK of a CALLER: the DAY on which the greatest number of those of LONG by which WARMTH is as much"
                + " is least, of like ones the least.");
        for (int late = 0; late < 9; late++) {
            ButlerWeather x = Edge.house("r1a9", "b" + (char) ('a' + late) + "x", 0, 0);
            // By 1 to late it is not in, by the others it is: asked on a day on which it would be.
            Edge.due("a man from day " + late + " on", x.ask(0), late);
            Edge.due("and once all are alike", felt(x, late, -1).ask(0), 0);
        }
        Edge.due("a gale's is all one", Edge.house("g1c9", "").ask(0), 0);
        Edge.due("no man", Edge.house("r1c9", "", 0, 0).ask(0), 0);
        Edge.due("none is left", felt(Edge.house("r1a9", "bdx", 0, 0), 0, 40).ask(0), 0);
        Edge.due("on the last day", Edge.house("r1w1", "bxx", 0, 0).ask(0), 23);
        Edge.due("one is left", felt(Edge.house("r1a9", "bix", 0, 0), 8, -1).ask(0), 0);
        Edge.due("eight are left", felt(Edge.house("r1a9", "bix", 0, 0), 8, 0).ask(0), 0);
        Edge.due("the eighth", Edge.house("g1a1;g1a1;g1a1;g1a1;g1a1;g1a1;g1a1;r9c1", "bex", 0, 7).ask(7), 4);
        twoOnTheStep();
    }

    /**
     * A man is there on day 2 and from day 5 on. By 1 and 2 the rain is gone, so that the frost is
     * let in on day 2; by 3 and more the rain is let in then, and the frost on day 5.
     */
    private static void twoOnTheStep() {
        ButlerWeather x = Edge.house("r9a1;f9a1", "bcc;bfx", 0, 0, 0, 1);
        Edge.due("of two days that tell as much the first", x.ask(0), 2);
        Edge.due("felt by the frost", felt(x, 5, -3).was(0, 1), 1022 - 2 - 4);
        Edge.due("then nothing more", x.ask(0), 0);
        x.forget();
        // Of the frost: by 1 to 5 gone ahead of day 5, by 6 and more in.
        Edge.due("of the other one", x.ask(1), 5);
        Edge.due("of the other one, when nothing new was felt", felt(x, 2, -1).ask(1), 5);
    }

    private static void askRefused() {
        Edge.sentence("ASK. BAD.");
        for (int c : Edge.outside(0, 7)) {
            Edge.refusedInAll("ask(" + c + ")", x -> x.ask(c), Edge.BAD);
        }
        Edge.refused("behind the last", Edge::some, x -> x.ask(3), Edge.BAD);
        Edge.refused("of none", ButlerWeather::new, x -> x.ask(0), Edge.BAD);
        Edge.refused("with a fault", Edge::faulty, x -> x.ask(0), Edge.BAD);
        Edge.changesNothing("ask", x -> x.ask(0) + x.ask(2));
    }

    // ---- promise 29

    private static void chanceOf(String call, ButlerWeather x, int c, int caller, long above, long below) {
        Edge.due(call + ": above", x.chance(c, caller, 0), above);
        Edge.due(call + ": below", x.chance(c, caller, 1), below);
    }

    private static void chanceBySixteenths() {
        Edge.sentence("CHANCE: each of CARDS is by c sixteenths (0 to 16)");
        int[][] lowest = {{0, 1}, {1, 16}, {1, 8}, {3, 16}, {1, 4}, {5, 16}, {3, 8}, {7, 16}, {1, 2},
            {9, 16}, {5, 8}, {11, 16}, {3, 4}, {13, 16}, {7, 8}, {15, 16}, {1, 1}};
        ButlerWeather x = Edge.house("r1a1;g1a1;r1a1", "bax", 0, 0);
        for (int c = 0; c <= 16; c++) {
            chanceOf("one card by " + c, x, c, 0, lowest[c][0], lowest[c][1]);
            chanceOf("a gale by " + c, x, c, 1, 1, 1);
            chanceOf("no card by " + c, x, c, 2, 0, 1);
        }
        Edge.due("below", x.chance(-1, 0, 0), Edge.BAD_LONG);
        Edge.due("above", x.chance(17, 0, 0), Edge.BAD_LONG);
    }

    private static void chanceByItself() {
        Edge.sentence("by itself: the chance that a CALLER is ever IN: a FRACTION");
        for (int n = 0; n <= 8; n++) {
            ButlerWeather one = Edge.house("r1a1", "bax");
            ButlerWeather last = Edge.house("r1a1;r1a1", "bax");
            for (int i = 0; i < n; i++) {
                one.card(0, 0);
                last.card(0, i == 0 ? 1 : 0);
            }
            for (int c = 0; c <= 16; c++) {
                BigInteger all = BigInteger.valueOf(16).pow(n);
                chanceIs("any of " + n + " by " + c, one, c, 0, all.subtract(BigInteger.valueOf(16 - c).pow(n)), all);
                BigInteger alone = n == 0 ? BigInteger.ZERO
                        : BigInteger.valueOf(c).multiply(BigInteger.valueOf(16 - c).pow(n - 1));
                chanceIs("one alone of " + n + " by " + c, last, c, n == 0 ? 0 : 1, alone, all);
            }
        }
    }

    private static void chanceIs(String call, ButlerWeather x, int c, int caller, BigInteger above, BigInteger below) {
        BigInteger common = above.gcd(below);
        chanceOf(call, x, c, caller, above.divide(common).longValueExact(), below.divide(common).longValueExact());
    }

    private static void fractions() {
        Edge.sentence("FRACTIONS are told in lowest terms, above and below (0 by 1).");
        ButlerWeather x = Edge.house("r1a1;s9a9", "bax", 0, 0, 0, 1, 0, 0, 0, 1, 0, 0, 0, 1, 0, 0, 0, 1);
        chanceOf("never by eight cards", x, 15, 1, 0, 1);
        chanceOf("surely by eight cards", x, 16, 0, 1, 1);
        chanceOf("not at all by eight cards", x, 0, 0, 0, 1);
        chanceOf("by a half", x, 8, 0, 15, 16);
        chanceOf("the greatest above and below", Edge.house("r1a1", "bax", 0, 0, 0, 0, 0, 0, 0, 0, 0, 0, 0, 0, 0, 0, 0, 0),
                15, 0, 4294967295L, 4294967296L);
        chanceOf("no cards", Edge.house("r1a1", "bax"), 16, 0, 0, 1);
        chanceOf("no cards, a gale", Edge.house("g1a1", ""), 0, 0, 1, 1);
    }

    private static void chanceRefused() {
        Edge.sentence("CHANCE: above, below. BAD. (As the least long.)");
        for (int what = 0; what < 2; what++) {
            int asked = what;
            for (int c : Edge.outside(0, 16)) {
                Edge.refusedInAll("chance(" + c + ", 0, " + what + ")", x -> x.chance(c, 0, asked), Edge.BAD_LONG);
            }
            for (int caller : Edge.outside(0, 7)) {
                Edge.refusedInAll("chance(5, " + caller + ", " + what + ")", x -> x.chance(5, caller, asked), Edge.BAD_LONG);
            }
            Edge.refused("behind the last", Edge::some, x -> x.chance(5, 3, asked), Edge.BAD_LONG);
            Edge.refused("of none", ButlerWeather::new, x -> x.chance(5, 0, asked), Edge.BAD_LONG);
            Edge.refused("with a fault", Edge::faulty, x -> x.chance(5, 0, asked), Edge.BAD_LONG);
            Edge.changesNothing("chance", x -> x.chance(5, 0, asked) + x.chance(16, 2, asked));
        }
        for (int what : Edge.outside(0, 1)) {
            Edge.refusedInAll("chance(5, 0, " + what + ")", x -> x.chance(5, 0, what), Edge.BAD_LONG);
        }
        Edge.sentence("where the answer is a long, a refusal -x is the least long and x more");
        Edge.due("BAD", Edge.some().chance(17, 0, 0), -9223372036854775806L);
    }

    // ---- promise 30

    /** The seeds behind a seed, in numbers that are never cut but by their rest by 2 to the 32. */
    private static long[] lots(int seed, int n) {
        BigInteger all = BigInteger.ONE.shiftLeft(32);
        BigInteger now = BigInteger.valueOf(seed).mod(all);
        long[] upper = new long[n];
        for (int i = 0; i < n; i++) {
            now = now.multiply(BigInteger.valueOf(1103515245)).add(BigInteger.valueOf(12345)).mod(all);
            upper[i] = now.shiftRight(16).longValueExact();
        }
        return upper;
    }

    private static final int[] SEEDS = {0, 1, -1, 7, Edge.LEAST, Edge.MOST, Edge.LEAST + 1, 65535, 65536, -65536,
        12345, 1103515245, -1103515245};

    private static void lotsThatWrap() {
        Edge.sentence("SEED becomes 1103515245 SEED and 12345, as ints that wrap; its upper 16 bits as a number from 0 on,"
                + " modulo m");
        int beyond = 0;
        for (int seed : SEEDS) {
            long upper = lots(seed, 1)[0];
            beyond += upper >= 32768 ? 1 : 0;
            int day = (int) (upper % 24);
            for (int calls = 0; calls < 24; calls++) {
                // One that is there on one day alone is in by a card of that day or of one ahead.
                ButlerWeather x = Edge.house("r1" + (char) ('a' + calls) + "1", "bax");
                Edge.due("seed " + seed + ", day " + calls, x.years(seed, 1, 0), day <= calls ? 1 : 0);
                Edge.due("seed " + seed + ", day " + calls, x.years(seed, 1, 1), day <= calls ? -1 : 0);
            }
        }
        Edge.due("some of them have the uppermost bit", beyond > 0 && beyond < SEEDS.length ? 1 : 0, 1);
    }

    private static void lotsOfCallers() {
        Edge.sentence("of each a LOT of 24 (its DAY), a LOT of CALLERS");
        String[] eight = {"r9x1", "r9x2", "r9x3", "r9x4", "f9x1", "f9x2", "f9x3", "f9x4"};
        for (int seed : SEEDS) {
            long[] upper = lots(seed, 16);
            for (int many = 1; many <= 8; many++) {
                for (int n = 0; n <= 8; n++) {
                    ButlerWeather x = Edge.house(String.join(";", Arrays.copyOf(eight, many)), "bax");
                    // All call on the last day, so each card is in time, and one of them is let in: the least.
                    int least = many;
                    for (int i = 0; i < n; i++) {
                        least = Math.min(least, (int) (upper[2 * i + 1] % many));
                    }
                    String call = "seed " + seed + ", " + n + " cards, " + many + " callers";
                    Edge.due(call, x.years(seed, n, 0), n == 0 ? 0 : 1);
                    Edge.due(call, x.years(seed, n, 1), n == 0 ? 0 : least < 4 ? -1 : -3);
                }
            }
        }
    }

    private static void yearsInPlace() {
        Edge.sentence("YEARS by a SEED: n CARDS (0 to 8), in place of those told");
        ButlerWeather x = Edge.house("r1a1;g1a1", "bax", 0, 0, 0, 0, 0, 0, 0, 0, 0, 0, 0, 0, 0, 0, 0, 0);
        Edge.due("told", x.sum(), -3);
        Edge.due("by no card the gale alone", x.years(5, 0, 0), 1);
        Edge.due("by no card the gale alone", x.years(5, 0, 1), -2);
        Edge.due("as by none told", x.years(5, 8, 1), Edge.house("r1a1;g1a1", "bax").years(5, 8, 1));
        Edge.due("those told are there still", x.count(4), 8);
        Edge.due("as told", x.sum(), -3);
        Edge.due("below", x.years(5, -1, 0), Edge.LEAST);
        Edge.due("above", x.years(5, 9, 0), Edge.LEAST);
        Edge.changesNothing("years", y -> y.years(1, 8, 0) + y.years(2, 0, 1));
    }

    private static void yearsOfNone() {
        Edge.sentence("(none where there are no CALLERS)");
        for (int n = 0; n <= 8; n++) {
            for (int what = 0; what < 2; what++) {
                Edge.due("no callers", Edge.house("", "bax", 0, 0).years(3, n, what), 0);
                Edge.due("a fault", Edge.house("g1a1;", "bax", 0, 0).years(3, n, what), 0);
                Edge.due("a new one", new ButlerWeather().years(3, n, what), 0);
            }
        }
    }

    private static void yearsRefused() {
        Edge.sentence("YEARS: how many are ever IN (what = 0), SUM (1). BAD: the least int.");
        for (int what = 0; what < 2; what++) {
            int asked = what;
            for (int n : Edge.outside(0, 8)) {
                Edge.refusedInAll("years(7, " + n + ", " + what + ")", x -> x.years(7, n, asked), Edge.LEAST);
            }
        }
        for (int what : Edge.outside(0, 1)) {
            Edge.refusedInAll("years(7, 0, " + what + ")", x -> x.years(7, 0, what), Edge.LEAST);
        }
    }
}
