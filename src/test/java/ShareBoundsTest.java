/** The bounds of SHARE and GAME (terms VII, VIII, promises 58 to 60), sentence by sentence, by hand. */
public final class ShareBoundsTest {
    private static final String RACE = "race steps 1 law 0 goal 60 odds 0;";
    private static final String BOAT = "boat at 0 needs 1;";
    private static final String ON_FIRST = "watcher eyes 1 sees 0 to 0 on 0;";

    private ShareBoundsTest() {
    }

    public static void main(String[] args) {
        sharesOfNoneAndOne();
        sharesOfFiveAlike();
        sharesOfSixtieths();
        sharesInLowestTerms();
        sharesBelowZero();
        sharesAsNow();
        sharesOfNoSuch();
        gameOfOneTwice();
        gameAtMostAndAtLeast();
        gameOfOneRest();
        gameWithoutRest();
        gamesTwoWays();
        gamesOfThoseSeen();
        gameWithOthersAsTold();
        gameAsNow();
        Check.finish("ShareBoundsTest");
    }

    private static void shareIs(Caller x, int boat, int watcher, int above, int below) {
        x.due("share " + boat + " " + watcher + " 0..1 = " + above + " " + below);
    }

    /** 58: "above (what 0), below (1)"; IX: "(0 / 1)"; VII: "more than at STEP 0". */
    private static void sharesOfNoneAndOne() {
        Caller most = Caller.of("share of 60", "race steps 20 law 0 goal 60 odds 0;"
                + "boat at 0 needs 3; boat at 7 needs 1;"
                + "watcher eyes 9 sees 0 to 1 on 0;");
        shareIs(most, 0, 0, 60, 1);
        shareIs(most, 1, 0, 0, 1);
        Caller least = Caller.of("share of 1", RACE + "boat at 30 needs 9; watcher eyes 9 sees 0 to 0 on 0;");
        shareIs(least, 0, 0, 1, 1);
        Caller home = Caller.of("share at goal", RACE.replace("goal 60", "goal 3")
                + "boat at 3 needs 1; boat at 9 needs 1; boat at 2 needs 1;"
                + "watcher eyes 9 sees 0 to 2 on 2;" + ON_FIRST);
        shareIs(home, 0, 1, 0, 1);
        shareIs(home, 1, 0, 0, 1);
        shareIs(home, 2, 0, 1, 1);
        shareIs(home, 2, 1, 0, 1);
    }

    /** VII: "each order is as likely": five of one kind have a fifth each. */
    private static void sharesOfFiveAlike() {
        int[] above = {3, 2, 1, 1, 1, 0};
        int[] below = {5, 5, 5, 5, 5, 1};
        for (int needs = 1; needs <= 6; needs++) {
            Caller x = Caller.of("share of five, needs " + needs, RACE + "boat at 9 needs " + needs + ";"
                    + ON_FIRST.repeat(5));
            for (int w = 0; w < 5; w++) {
                shareIs(x, 0, w, above[needs - 1], below[needs - 1]);
            }
            Caller two = Caller.of("share of two, needs " + needs, RACE + "boat at 9 needs " + needs + ";"
                    + ON_FIRST.repeat(2));
            shareIs(two, 0, 0, needs < 3 ? 1 : 0, needs == 2 ? 2 : 1);
        }
        Caller none = Caller.of("share of one who is not needed", RACE + "boat at 0 needs 2;" + ON_FIRST
                + "watcher eyes 3 sees 0 to 0 on 0;" + ON_FIRST);
        // 3 alone are one, all five eyes two: she has one of the two on her own, and is pivot with both others.
        shareIs(none, 0, 1, 4, 3);
        shareIs(none, 0, 0, 1, 3);
    }

    /** VII: all 120 orders; by eyes of 2, 6, 2, 7, 5 and needs 9 (worked out apart from the program). */
    private static void sharesOfSixtieths() {
        StringBuilder text = new StringBuilder(RACE + "boat at 0 needs 9;");
        for (int eyes : new int[] {2, 6, 2, 7, 5}) {
            text.append("watcher eyes " + eyes + " sees 0 to 0 on 0;");
        }
        Caller x = Caller.of("share of sixtieths", text.toString());
        shareIs(x, 0, 0, 7, 60);
        shareIs(x, 0, 1, 8, 15);
        shareIs(x, 0, 2, 7, 60);
        shareIs(x, 0, 3, 7, 10);
        shareIs(x, 0, 4, 8, 15);
    }

    /** IX: "FRACTIONS are told in lowest terms". */
    private static void sharesInLowestTerms() {
        String of = RACE + "boat at 0 needs #; watcher eyes 2 sees 0 to 0 on 0;" + ON_FIRST + ON_FIRST;
        Caller three = Caller.of("share of two thirds and sixths", of.replace("#", "3"));
        shareIs(three, 0, 0, 2, 3);
        shareIs(three, 0, 1, 1, 6);
        shareIs(three, 0, 2, 1, 6);
        // 2 and 1 + 1 are one, all four are two: 1 / 1 and 1 / 2 of 6 / 6 and 3 / 6.
        Caller two = Caller.of("share of wholes and halves", of.replace("#", "2"));
        shareIs(two, 0, 0, 1, 1);
        shareIs(two, 0, 1, 1, 2);
        Caller nine = Caller.of("share of needs 9", of.replace("#", "9"));
        shareIs(nine, 0, 0, 0, 1);
    }

    /** VII: "what the set is worth more by her (below 0, too)". */
    private static void sharesBelowZero() {
        // WATCHER 1 has BOAT 1 lead, so that WATCHER 0 turns away from BOAT 0: 1 for it in place of as many as STEPS.
        String race = "race steps # law 1 goal 60 odds 0; boat at 0 needs 1; boat at 0 needs 1;"
                + "watcher eyes 1 sees 0 to 1 on 0; watcher eyes 3 sees 1 to 1 on 1;";
        Caller three = Caller.of("share below 0", race.replace("#", "3"));
        shareIs(three, 0, 0, 2, 1);
        shareIs(three, 0, 1, -1, 1);
        Caller four = Caller.of("share below 0, halves", race.replace("#", "4"));
        shareIs(four, 0, 0, 5, 2);
        shareIs(four, 0, 1, -3, 2);
        Caller one = Caller.of("share of 0 for a step", race.replace("#", "1"));
        shareIs(one, 0, 1, 0, 1);
    }

    /** VII: "if all others sneeze at all STEPS": SHOWS and acts are as now. */
    private static void sharesAsNow() {
        Caller x = Caller.of("share as now", "race steps 3 law 0 goal 60 odds 0;" + BOAT + BOAT + ON_FIRST
                + "watcher eyes 3 sees 0 to 1 on 1; show 1 at 2;");
        shareIs(x, 0, 0, 2, 1);
        shareIs(x, 1, 1, 9, 1);
        x.due("sneeze 0 0 = 1");
        shareIs(x, 0, 0, 1, 1);
        x.due("look 1 0 0 = 1");
        shareIs(x, 1, 1, 0, 1);
        shareIs(x, 0, 1, 17, 2);
        x.due("sneeze 1 2 = 1");
        shareIs(x, 0, 1, 11, 2);
        shareIs(x, 0, 0, 1, 2);
        x.due("anew = 3", "rate 1 2 = 1");
        shareIs(x, 1, 1, 3, 1);
        x.due("place 1 3 = 3", "awake 0..2 = 3 3 2");
    }

    /** 58: "-2: there are none such." */
    private static void sharesOfNoSuch() {
        Caller x = Caller.of("share of no such", RACE + BOAT + BOAT + ON_FIRST);
        for (String wrong : new String[] {"-1 0 0", "2 0 0", "MIN 0 0", "MAX 0 0", "0 -1 0", "0 1 0", "0 MIN 0",
            "0 MAX 0", "0 0 -1", "0 0 2", "0 0 MIN", "0 0 MAX"}) {
            x.due("share " + wrong + " = -2");
        }
        x.due("share 1 0 0..1 = 0 1", "race = 0", "share 0 0 0 = -2");
        Caller nobody = Caller.of("share without WATCHERS", RACE + BOAT);
        nobody.due("share 0 0 0..1 = -2");
        new Caller("share without a RACE").due("share 0 0 0..1 = -2");
    }

    /** 59, 60: "-2: there are none such, one twice." */
    private static void gameOfOneTwice() {
        Caller x = Caller.of("game of one twice", RACE + BOAT + ON_FIRST.repeat(5));
        for (int w = 0; w < 5; w++) {
            for (int other = -1; other <= 5; other++) {
                boolean two = w != other && other >= 0 && other < 5;
                x.due("rests " + w + " " + other + " = " + (two ? 1 : -2), "rest " + w + " " + other + " = "
                        + (two ? 0 : -2), "rests " + other + " " + w + " = " + (two ? 1 : -2));
            }
            x.due("rest " + w + " MIN = -2", "rest MAX " + w + " = -2", "rests MIN MIN = -2", "rests 5 5 = -2");
        }
        Caller one = Caller.of("game of one WATCHER", RACE + BOAT + ON_FIRST);
        one.due("rests 0 0..1 = -2", "rest 0 0..1 = -2", "rests 1 0 = -2", "race = 0",
                "rests 0 1 = -2", "rest 0 1 = -2");
    }

    /** VIII: "neither GETS more": as much is no more. 59: "how many", 60: "The first such pair (10 times ..)". */
    private static void gameAtMostAndAtLeast() {
        String slow = RACE + "boat at 0 needs 9;".repeat(5);
        for (int first = 0; first < 5; first++) {
            for (int last = first; last < 5; last++) {
                Caller x = Caller.of("game of " + first + " to " + last, slow + "watcher eyes 1 sees " + first + " to "
                        + last + " on " + last + "; watcher eyes 1 sees 0 to 4 on 4; watcher eyes 1 sees 4 to 4 on 4;");
                int n = last - first + 1;
                x.due("rests 0 1 = " + 5 * n, "rests 1 0 = " + 5 * n);
                x.due("rest 0 1 = " + 10 * first, "rest 1 0 = " + first);
                x.due("rests 0 2 = " + n, "rests 2 0 = " + n, "rest 0 2 = " + (10 * first + 4),
                        "rest 2 0 = " + (40 + first), "rests 1 2 = 5", "rest 1 2 = 4");
            }
        }
    }

    /** VIII: "She GETS how far the BOAT told for her is at the last STEP (whichever she chooses)." */
    private static void gameOfOneRest() {
        for (int a = 0; a < 5; a++) {
            for (int b = 0; b < 5; b++) {
                Caller x = Caller.of("game of one rest", RACE + BOAT.repeat(5) + "watcher eyes 1 sees 0 to 4 on " + a
                        + "; watcher eyes 1 sees 0 to 4 on " + b + ";");
                x.due("rests 0 1 = 1", "rest 0 1 = " + (10 * a + b), "rest 1 0 = " + (10 * b + a));
            }
        }
        // All eyes are needed for either BOAT: where each LOOKS at the other's, either GETS more on her own.
        Caller both = Caller.of("game where both are needed", RACE + "boat at 0 needs 2;".repeat(2)
                + "watcher eyes 1 sees 0 to 1 on 0; watcher eyes 1 sees 0 to 1 on 1;");
        both.due("rests 0 1 = 3", "rest 0 1 = 0");
        Caller one = Caller.of("game where both are told one", RACE + "boat at 0 needs 2;".repeat(2)
                + "watcher eyes 1 sees 0 to 1 on 0; watcher eyes 1 sees 0 to 1 on 0;");
        one.due("rests 0 1 = 2", "rest 0 1 = 0");
        Caller second = Caller.of("game of the second one told", RACE + "boat at 0 needs 2;".repeat(2)
                + "watcher eyes 1 sees 0 to 1 on 1; watcher eyes 1 sees 0 to 1 on 1;");
        second.due("rests 0 1 = 2", "rest 0 1 = 0");
    }

    /** 60: "NONE: none": each pair has one who would rather turn away. */
    private static void gameWithoutRest() {
        // By LAW 2 both turn to the one that is least far at STEP 1. They GET by 00, 01, 10, 11: 44, 53, 53, 44.
        Caller x = Caller.of("game without rest", "race steps 2 law 2 goal 5 odds 0; boat at 2 needs 2;"
                + "boat at 3 needs 3; watcher eyes 2 sees 0 to 1 on 0; watcher eyes 2 sees 0 to 1 on 1;");
        x.due("rests 0 1 = 0", "rest 0 1 = -1", "rests 1 0 = 0", "rest 1 0 = -1");
        // None is none also behind a pair that was asked for ahead of it.
        x.due("sneeze 0 0 = 1", "sneeze 1 0 = 1", "sneeze 0 1 = 1", "sneeze 1 1 = 1", "rests 0 1 = 4", "rest 0 1 = 0",
                "anew = 4", "rest 0 1 = -1", "rests 0 1 = 0", "rest 1 0 = -1");
    }

    /** 60: "10 times the first one's BOAT and the other one's". */
    private static void gamesTwoWays() {
        Caller x = Caller.of("game two ways", RACE + "boat at 0 needs 9;".repeat(5) + "watcher eyes 1 sees 0 to 1 on 0;"
                + "watcher eyes 1 sees 2 to 3 on 3; watcher eyes 1 sees 4 to 4 on 4; watcher eyes 1 sees 4 to 4 on 4;");
        x.due("rest 0 1 = 2", "rest 1 0 = 20", "rest 0 2 = 4", "rest 2 0 = 40", "rest 1 2 = 24", "rest 2 1 = 42",
                "rest 2 3 = 44", "rest 3 2 = 44", "rests 0 1 = 4", "rests 1 2 = 2", "rests 2 3 = 1");
    }

    /** VIII: "Each .. LOOKS at any BOAT that she sees", and no other; "at the last STEP", of twenty. */
    private static void gamesOfThoseSeen() {
        String race = RACE.replace("steps 1 ", "steps 20 ");
        Caller x = Caller.of("games of those seen", race + BOAT.repeat(3) + "watcher eyes 1 sees 0 to 1 on 0;"
                + "watcher eyes 1 sees 1 to 2 on 2;");
        x.due("rests 0 1 = 1", "rest 0 1 = 2", "rests 1 0 = 1", "rest 1 0 = 20");
        Caller y = Caller.of("games of those seen, the other way", race + BOAT.repeat(3)
                + "watcher eyes 1 sees 1 to 2 on 2;" + "watcher eyes 1 sees 0 to 1 on 0;");
        y.due("rests 0 1 = 1", "rest 0 1 = 20", "rests 1 0 = 1", "rest 1 0 = 2");
        Caller one = Caller.of("games of one seen and five", race + BOAT.repeat(5)
                + "watcher eyes 1 sees 2 to 2 on 2;" + "watcher eyes 1 sees 0 to 4 on 3;");
        one.due("rests 0 1 = 1", "rest 0 1 = 23", "rests 1 0 = 1", "rest 1 0 = 32");
    }

    /** VIII: "in place of the one told": all others LOOK at those told for them. */
    private static void gameWithOthersAsTold() {
        String race = RACE + "boat at 0 needs 3; boat at 0 needs 9; watcher eyes 1 sees 0 to 1 on 0;"
                + "watcher eyes 1 sees 0 to 1 on 0; watcher eyes 1 sees 0 to 1 on #;";
        Caller with = Caller.of("game with another one on it", race.replace("#", "0"));
        with.due("rests 0 1 = 2", "rest 0 1 = 0", "rests 0 2 = 2", "rests 1 2 = 2");
        Caller without = Caller.of("game without another one on it", race.replace("#", "1"));
        without.due("rests 0 1 = 4", "rest 0 1 = 0");
        // WATCHER 2 GETS how far BOAT 1 is, and it stays; so all of hers are as good for her.
        without.due("rests 0 2 = 3", "rest 0 2 = 0");
    }

    private static void gameAsNow() {
        Caller x = Caller.of("game as now", RACE + BOAT + BOAT + "watcher eyes 1 sees 0 to 1 on 0;"
                + "watcher eyes 2 sees 0 to 1 on 1;");
        x.due("rests 0 1 = 1", "rest 0 1 = 1", "sneeze 0 0 = 1", "rests 0 1 = 2", "rest 0 1 = 1", "sneeze 1 0 = 1",
                "rests 0 1 = 4", "rest 0 1 = 0", "undo = 1", "undo = 0", "look 0 1 0 = 0", "rests 0 1 = 2",
                "rest 0 1 = 1", "anew = 1", "rests 0 1 = 1");
        x.due("rate 1 3 = 1", "rests 0 1 = 2", "rate 0 3 = 1", "rests 0 1 = 3", "rest 1 0 = 0", "on 0..1 0 = 0 1");
    }
}
