import java.math.BigInteger;

/** The bounds of KINGFISHERS, FRACTIONS and DRAWS (term IX, promises 61, 62, 67, 68), sentence by sentence. */
public final class ChanceBoundsTest {
    private static final String BOAT = "boat at 0 needs 5;";
    /** Her eyes are as many as a KINGFISHER's lure. */
    private static final String FIVE = "watcher eyes 5 sees 0 to 0 on 0;";
    private static final String SIX = "watcher eyes 6 sees 0 to 0 on 0;";
    private static final String LAST_SEED = "2000000000";
    /** The first draws from the seeds 0 and 2,000,000,000, worked out apart from the program. */
    private static final int[] FROM_ZERO = {0, 8, 8, 7, 8, 7};
    private static final int[] FROM_LAST = {4, 3, 1, 7, 6, 2};

    private ChanceBoundsTest() {
    }

    public static void main(String[] args) {
        chanceOfStepsThereAre();
        chanceOfNoneSuch();
        chanceByOdds();
        chanceAtMostBelow();
        chanceOfTheFirst();
        chanceOfLureFive();
        chanceAsNow();
        meanOfEach();
        meanBeyondAnInt();
        drawsByTheirRule();
        drawnBelowOdds();
        drawnOfStepsThereAre();
        drawnSeedsThereAre();
        drawnWins();
        drawnWithShowsAndActs();
        luckOfSoMany();
        luckOfNoneSuch();
        Check.finish("ChanceBoundsTest");
    }

    private static String race(int steps, int goal, int odds) {
        return "race steps " + steps + " law 0 goal " + goal + " odds " + odds + ";";
    }

    /** IX: "lowest terms (0 / 1)". */
    private static void fraction(Caller x, String call, long above, long below) {
        long common = BigInteger.valueOf(above).gcd(BigInteger.valueOf(below)).longValue();
        x.due(call + " 0 = " + above / common, call + " 1 = " + below / common);
    }

    private static long power(int base, int n) {
        return BigInteger.valueOf(base).pow(n).longValue();
    }

    /** 61, 62: "at STEPS 0 to one (0 .. 7, ahead of the last)". */
    private static void chanceOfStepsThereAre() {
        for (int steps = 1; steps <= 20; steps++) {
            Caller x = Caller.of("chance of " + steps + " STEPS", race(steps, 60, 3) + BOAT + FIVE);
            for (int step = 0; step <= Math.min(7, steps - 1); step++) {
                fraction(x, "chance 0 " + step, 1, 1);
                fraction(x, "mean 0 " + step, 7 * (step + 1), 10);
            }
            int beyond = Math.min(8, steps);
            x.due("chance 0 " + beyond + " 0..1 = -2", "mean 0 " + beyond + " 0..1 = -2", "chance 0 19..20 0 = -2",
                    "mean 0 19..20 0 = -2");
        }
    }

    /** 61, 62: "-2: there are none such." */
    private static void chanceOfNoneSuch() {
        Caller x = Caller.of("chance of none such", race(20, 60, 3) + BOAT + BOAT + FIVE);
        for (String call : new String[] {"chance", "mean"}) {
            x.due(call + " -1..2 0 1 = -2 " + (call.equals("chance") ? "1 1" : "10 1") + " -2");
            for (String wrong : new String[] {"MIN 0 0", "MAX 0 0", "0 -1 0", "0 8 0", "0 MIN 0", "0 MAX 0", "0 0 -1",
                "0 0 2", "0 0 MIN", "0 0 MAX", "5 8 2"}) {
                x.due(call + " " + wrong + " = -2");
            }
        }
        x.due("race = 0", "chance 0 0 0 = -2", "mean 0 0 0 = -2");
        Caller none = Caller.of("chance without BOATS", race(20, 60, 3));
        none.due("chance 0 0..7 0 = -2", "mean 0 0..7 1 = -2");
        new Caller("chance without a RACE").due("chance 0 0 0 = -2", "mean 0 0 0 = -2");
    }

    /** BOAT 0 stays; BOAT 1 goes one farther at each STEP without a KINGFISHER. */
    private static String chase(int odds, int start) {
        return race(20, 60, odds) + "boat at " + start + " needs 9;" + BOAT + "watcher eyes 5 sees 1 to 1 on 1;";
    }

    /** IX: "odds in ten, by itself". */
    private static void chanceByOdds() {
        for (int odds = 0; odds <= 10; odds++) {
            for (int step = 0; step <= 7; step++) {
                Caller x = Caller.of("chance by odds " + odds, chase(odds, step));
                long below = power(10, step + 1);
                long allFree = power(10 - odds, step + 1);
                fraction(x, "chance 0 " + step, below - allFree, below);
                fraction(x, "chance 1 " + step, allFree, below);
                fraction(x, "mean 0 " + step, step, 1);
                fraction(x, "mean 1 " + step, (10 - odds) * (step + 1L), 10);
            }
        }
    }

    /** IX: ten to the eighth below; "(0 / 1)". */
    private static void chanceAtMostBelow() {
        Caller.of("chance below at most", chase(3, 7))
                .due("chance 1 7 0..1 = 5764801 100000000", "chance 0 7 0..1 = 94235199 100000000");
        Caller.of("chance of halves", chase(5, 7)).due("chance 1 7 0..1 = 1 256", "chance 0 7 0..1 = 255 256");
        Caller.of("chance without odds", chase(0, 7))
                .due("chance 1 7 0..1 = 1", "chance 0 7 0..1 = 0 1", "mean 1 7 0..1 = 8 1");
        Caller.of("chance of all odds", chase(10, 7))
                .due("chance 1 7 0..1 = 0 1", "chance 0 7 0..1 = 1", "mean 1 7 0..1 = 0 1", "mean 0 7 0..1 = 7 1");
    }

    /** 61: "leads() at the STEP behind it": the first of several. */
    private static void chanceOfTheFirst() {
        Caller x = Caller.of("chance of the first of several", race(20, 60, 4) + BOAT.repeat(5));
        fraction(x, "chance 0 7", 1, 1);
        fraction(x, "chance 1 7", 0, 1);
        fraction(x, "chance 4 0", 0, 1);
        Caller last = Caller.of("chance of the last one", race(2, 60, 4) + BOAT.repeat(4)
                + "boat at 1 needs 5;" + FIVE);
        fraction(last, "chance 4 0", 4, 10);
        fraction(last, "chance 0 0", 6, 10);
        fraction(last, "chance 0 1", 84, 100);
    }

    /** IX: "a SHOW of lure 5" draws away eyes of 5, and not of 6. */
    private static void chanceOfLureFive() {
        for (int eyes = 1; eyes <= 9; eyes++) {
            Caller x = Caller.of("chance of lure 5, eyes " + eyes, race(3, 60, 3) + "boat at 2 needs " + eyes
                    + "; watcher eyes " + eyes + " sees 0 to 0 on 0;");
            fraction(x, "mean 0 0", eyes <= 5 ? 27 : 30, 10);
            fraction(x, "mean 0 2", eyes <= 5 ? 41 : 50, 10);
            x.due("drawn 0 0 = 1");
        }
    }

    /** IX: besides SHOWS and acts; "by itself": not where there is a SHOW of the RACE. */
    private static void chanceAsNow() {
        Caller x = Caller.of("chance as now", race(3, 60, 3) + BOAT + FIVE + "show 4 at 0; show 5 at 1;");
        fraction(x, "mean 0 0", 7, 10);
        fraction(x, "mean 0 1", 7, 10);
        fraction(x, "mean 0 2", 14, 10);
        x.due("sneeze 0 0 = 1");
        fraction(x, "mean 0 0", 0, 1);
        fraction(x, "mean 0 2", 7, 10);
        x.due("anew = 1", "rate 0 6 = 5");
        fraction(x, "mean 0 2", 0, 1);
        x.due("rate 0 1 = 6");
        fraction(x, "mean 0 2", 42, 10);
        x.due("place 0 0..3 = 0 3 3 6", "awake 0..2 = 1 0 1");
        Caller turned = Caller.of("chance by an act", race(2, 60, 5) + BOAT + BOAT + FIVE);
        turned.due("look 0 1 1 = 0");
        fraction(turned, "mean 0 1", 1, 2);
        fraction(turned, "mean 1 1", 1, 2);
        fraction(turned, "chance 1 1", 1, 4);
    }

    /** 62: "The mean of how far it is then": goal at most, from its start on. */
    private static void meanOfEach() {
        Caller home = Caller.of("mean at goal", race(20, 30, 3) + "boat at 30 needs 5; boat at 29 needs 5;"
                + FIVE + FIVE.replace("0 to 0 on 0", "1 to 1 on 1"));
        for (int step = 0; step <= 7; step++) {
            fraction(home, "mean 0 " + step, 30, 1);
            fraction(home, "mean 1 " + step, 30 * power(10, step + 1) - power(3, step + 1), power(10, step + 1));
        }
        Caller zero = Caller.of("mean of 0", race(20, 30, 10) + BOAT + FIVE);
        zero.due("mean 0 0..7 0 = 0", "mean 0 0..7 1 = 1");
    }

    /** 61, 62 answer a long. */
    private static void meanBeyondAnInt() {
        Caller x = Caller.of("mean beyond an int", race(20, 31, 3) + "boat at 30 needs 5;" + FIVE);
        x.due("mean 0 7 0..1 = 3099993439 100000000");
        Caller most = Caller.of("mean of 60", race(20, 60, 1) + "boat at 30 needs 1;" + FIVE.repeat(5));
        // 3 a STEP with nine in ten.
        fraction(most, "mean 0 7", 300 + 8 * 27, 10);
    }

    /** IX: "x becomes (1103515245 x + 12345) modulo 2,147,483,648 (at first it is the seed)". */
    private static int[] draws(long seed, int n) {
        BigInteger x = BigInteger.valueOf(seed);
        int[] draws = new int[n];
        for (int i = 0; i < n; i++) {
            x = x.multiply(BigInteger.valueOf(1103515245)).add(BigInteger.valueOf(12345));
            x = x.mod(BigInteger.valueOf(2147483648L));
            draws[i] = x.divide(BigInteger.valueOf(65536)).mod(BigInteger.TEN).intValue();
        }
        return draws;
    }

    private static long bitsBelow(int[] draws, int odds) {
        long bits = 0;
        for (int i = 0; i < draws.length; i++) {
            bits |= draws[i] < odds ? 1L << i : 0;
        }
        return bits;
    }

    private static void drawsByTheirRule() {
        Check.holds("draws from 0", java.util.Arrays.equals(draws(0, 6), FROM_ZERO));
        Check.holds("draws from the last seed", java.util.Arrays.equals(draws(2000000000, 6), FROM_LAST));
        for (int odds = 0; odds <= 10; odds++) {
            Caller x = Caller.of("draws by odds " + odds, race(6, 60, odds) + BOAT);
            x.due("drawn 0 0 = " + bitsBelow(FROM_ZERO, odds));
            x.due("drawn " + LAST_SEED + " 0 = " + bitsBelow(FROM_LAST, odds));
        }
        Caller full = Caller.of("draws of twenty", race(20, 60, 5) + BOAT);
        for (long seed : new long[] {0, 1, 2, 9, 10, 65535, 65536, 1103515245, 1999999999, 2000000000}) {
            full.due("drawn " + seed + " 0 = " + bitsBelow(draws(seed, 20), 5));
        }
    }

    /** IX: "below odds there is one": odds 0: none, odds 10: all; a draw of odds is none. */
    private static void drawnBelowOdds() {
        Caller none = Caller.of("drawn by odds 0", race(20, 60, 0) + BOAT + FIVE);
        Caller all = Caller.of("drawn by odds 10", race(20, 60, 10) + BOAT + FIVE);
        for (int seed = 0; seed < 20; seed++) {
            none.due("drawn " + seed + " 0 = 0");
            all.due("drawn " + seed + " 0 = 1048575");
        }
        Caller four = Caller.of("drawn by odds 4: the first draw is 4", race(1, 60, 4) + BOAT);
        four.due("drawn " + LAST_SEED + " 0 = 0", "drawn 0 0 = 1");
        Caller five = Caller.of("drawn by odds 5: the first draw is 4", race(1, 60, 5) + BOAT);
        five.due("drawn " + LAST_SEED + " 0 = 1", "drawn 0 0 = 1");
    }

    /** IX: "STEP by STEP ahead of the last". */
    private static void drawnOfStepsThereAre() {
        for (int steps = 1; steps <= 20; steps++) {
            Caller x = Caller.of("drawn of " + steps, race(steps, 60, 10) + BOAT);
            x.due("drawn 7 0 = " + ((1 << steps) - 1), "drawn 7 1 = -1");
        }
        Caller nobody = Caller.of("drawn without BOATS", race(3, 60, 10));
        nobody.due("drawn 0 0..1 = 7 -1", "luck 0 1 0 = -2");
    }

    /** 67: "from a seed (0 .. 2,000,000,000), what 0: .., 1: .. -2: there are none such, no RACE." */
    private static void drawnSeedsThereAre() {
        Caller x = Caller.of("drawn from seeds", race(6, 60, 5) + BOAT);
        x.due("drawn -1 0..1 = -2", "drawn 2000000001 0..1 = -2", "drawn MIN 0..1 = -2", "drawn MAX 0..1 = -2");
        x.due("drawn 0 -1..2 = -2 1 -1 -2", "drawn 0 MIN = -2", "drawn 0 MAX = -2",
                "drawn " + LAST_SEED + " -1..2 = -2 39 -1 -2", "drawn 2000000001 7 = -2");
        x.due("race = 0", "drawn 0 0..1 = -2", "luck 0 1 0 = -2");
        new Caller("drawn without a RACE").due("drawn 0 0..1 = -2", "luck 0 1 0 = -2");
    }

    /** 67: "the BOAT that WINS (NONE: none)": by the draws of its seed; the RACE stays as it is. */
    private static void drawnWins() {
        // From 0 by odds 1 a KINGFISHER is at STEP 0 alone, from 2,000,000,000 by odds 2 at STEP 2 alone.
        Caller x = Caller.of("drawn wins", race(3, 3, 1) + BOAT + FIVE);
        x.due("wins = 0", "drawn 0 0..1 = 1 -1", "drawn " + LAST_SEED + " 0..1 = 0", "wins = 0", "awake 0..2 = 1");
        Caller y = Caller.of("drawn wins, another one", race(4, 3, 2) + BOAT + "boat at 2 needs 6;" + FIVE
                + SIX.replace("0 to 0 on 0", "1 to 1 on 1") + "show 6 at 0; show 6 at 1;");
        y.due("wins = 1", "drawn 0 1 = 1", "drawn " + LAST_SEED + " 0..1 = 4 1");
        Caller z = Caller.of("drawn wins, the other one", race(3, 3, 1) + BOAT.replace("needs 5", "needs 1")
                + "boat at 1 needs 6;" + FIVE + SIX.replace("0 to 0 on 0", "1 to 1 on 1"));
        z.due("wins = 0", "drawn 0 1 = 0", "home 0..1 = 1 2", "rate 0 5 = 1", "wins = 1", "drawn 0 1 = 1",
                "drawn 1 1 = 1");
    }

    private static void drawnWithShowsAndActs() {
        Caller x = Caller.of("drawn with shows and acts", race(3, 2, 1) + BOAT + FIVE + "show 9 at 1;");
        // STEP 0 is lost to a KINGFISHER from 0, STEP 1 to the SHOW: two STEPS are enough from 2,000,000,000 alone.
        x.due("drawn 0 0..1 = 1 -1", "drawn " + LAST_SEED + " 0..1 = 0", "sneeze 0 2 = 1",
                "drawn " + LAST_SEED + " 0..1 = 0 -1", "undo = 0", "drawn " + LAST_SEED + " 1 = 0");
    }

    /** 68: "Of n (1 .. 20) such from seeds, the seed and 1, .., in how many a BOAT WINS." */
    private static void luckOfSoMany() {
        for (long seed : new long[] {0, 1, 999, 1999999980, 1999999981, 2000000000}) {
            Caller x = Caller.of("luck from " + seed, race(4, 3, 5) + BOAT + FIVE);
            int won = 0;
            for (int n = 1; n <= 20; n++) {
                won += Long.bitCount(bitsBelow(draws(seed + n - 1, 4), 5)) <= 1 ? 1 : 0;
                x.due("luck " + seed + " " + n + " 0 = " + won);
            }
        }
        Caller sure = Caller.of("luck of one at goal", race(4, 3, 5) + BOAT + "boat at 3 needs 1;" + FIVE);
        sure.due("luck 0 1 0..1 = 0 1", "luck 0 20 0..1 = 0 20", "luck " + LAST_SEED + " 20 1 = 20");
        Caller none = Caller.of("luck where none wins", race(4, 9, 5) + BOAT + FIVE);
        none.due("luck 0 20 0 = 0");
    }

    /** 68: "-2: there are none such." */
    private static void luckOfNoneSuch() {
        Caller x = Caller.of("luck of none such", race(4, 3, 5) + BOAT + "boat at 3 needs 1;");
        for (String wrong : new String[] {"-1 1 0", "2000000001 1 0", "MIN 1 0", "MAX 1 0", "0 0 0", "0 21 0", "0 -1 0",
            "0 MIN 0", "0 MAX 0", "0 1 -1", "0 1 2", "0 1 MIN", "0 1 MAX", "-1 20 1"}) {
            x.due("luck " + wrong + " = -2");
        }
        x.due("luck 0 1 1 = 1", "luck " + LAST_SEED + " 1 1 = 1");
    }
}
