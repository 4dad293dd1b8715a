import java.util.List;

/** The bounds of acts, of needs changed, of what is counted and kept (promises 63 to 66, 69 to 72), by hand. */
public final class ActBoundsTest {
    private static final String RACE = "race steps 3 law 0 goal 60 odds 0;";
    private static final String BOAT = "boat at 0 needs 1;";
    private static final String WATCHER = "watcher eyes 1 sees 0 to 1 on 0;";
    private static final String TWO = RACE + BOAT + BOAT + WATCHER + WATCHER + "show 1 at 1;";

    private ActBoundsTest() {
    }

    public static void main(String[] args) {
        lookAtFirstAndLastStep();
        lookAtOneNotSeen();
        lookAnswersTillThen();
        lookBehindTheLaw();
        sneezeAheadOfTheLast();
        sneezeIfHerEyesCounted();
        sneezeDoesNotTurn();
        thirtyActs();
        thirtyActsRefuseOthers();
        thirtyActsOfOneStep();
        noSuchAheadOfTooMany();
        undoToNone();
        undoBringsBack();
        anewOfAll();
        rateFromOneToNine();
        rateWithActs();
        countEach();
        countAtMost();
        imagesThereAre();
        imageOfNoRace();
        imageKeepsRaceAndActs();
        imageKeepsActs();
        imageStaysAsItWas();
        backKeepsAllElse();
        callsAtMost();
        Check.finish("ActBoundsTest");
    }

    /** 63, II: acts at "the STEP (0, too)", at the last STEP, too. */
    private static void lookAtFirstAndLastStep() {
        Caller x = Caller.of("look at each STEP", TWO);
        x.due("look 0 1 3 = 0", "on 0 0..3 = 0 0 0 1", "place 0 0..3 = 0 2 2 4", "look 0 1 0 = 0", "on 0 0..3 = 1",
                "place 0 0..3 = 0 1 1 2", "place 1 0..3 = 0 1 1 2", "look 0 1 4 = -2", "look 0 1 -1 = -2",
                "count 7 = 2");
        Caller one = Caller.of("look of one STEP", "race steps 1 law 0 goal 60 odds 0;" + BOAT + BOAT + WATCHER);
        one.due("look 0 1 1 = 0", "place 0 1 = 1", "on 0 0..1 = 0 1", "lookers 1 0..1 = 0 1", "unseen 0..1 = 2 1",
                "look 0 1 2 = -2");
    }

    /** II: "she LOOKS at the BOAT told (also one that she does not see)". */
    private static void lookAtOneNotSeen() {
        Caller x = Caller.of("look at one not seen", RACE + BOAT.repeat(5) + "watcher eyes 1 sees 2 to 2 on 2;");
        x.due("look 0 0 0 = 2", "on 0 0..3 = 0", "place 0 3 = 3", "look 0 4 1 = 0", "on 0 0..3 = 0 4 4 4",
                "seers 0..4 = 0 0 1 0 0", "look 0 5 0 = -2", "look 0 -1 0 = -2", "watcher 0 3 = 2", "faithful = 0",
                "place 4 3 = 2", "eyes 4 2 = 1");
    }

    /** 63: "behind acts of it so far: at which she did till then"; II: "as they were given". */
    private static void lookAnswersTillThen() {
        Caller x = Caller.of("look till then", TWO);
        x.due("look 0 1 2 = 0", "look 0 0 2 = 1", "look 0 1 2 = 0", "look 0 1 2 = 1", "on 0 0..3 = 0 0 1 1",
                "count 7 = 4");
        x.due("look 0 1 0 = 0", "look 0 0 1 = 1", "on 0 0..3 = 1 0 1 1", "look 1 1 2 = 0", "on 1 0..3 = 0 0 1 1");
        // The earlier STEP is acted on later: what was told of the later one stays.
        Caller y = Caller.of("look ahead of another act", TWO);
        y.due("look 0 0 2 = 0", "look 0 1 1 = 0", "on 0 0..3 = 0 1 0 0", "look 0 1 2 = 0", "undo = 2",
                "on 0 0..3 = 0 1 0 0");
    }

    /** II: "Then, by acts": from there on by LAW again. */
    private static void lookBehindTheLaw() {
        Caller x = Caller.of("look behind LAW 3", RACE.replace("law 0", "law 3") + BOAT.repeat(5)
                + "watcher eyes 1 sees 1 to 3 on 1;");
        x.due("on 0 0..3 = 1 2 3 1", "look 0 1 1 = 2", "on 0 0..3 = 1 1 2 3", "look 0 4 2 = 2", "on 0 0..3 = 1 1 4 1",
                "look 0 3 2 = 4", "on 0 0..3 = 1 1 3 1");
        Caller y = Caller.of("look behind LAW 1", RACE.replace("law 0", "law 1") + BOAT + BOAT + WATCHER);
        y.due("on 0 0..3 = 0", "look 0 1 0 = 0", "on 0 0..3 = 1", "place 1 3 = 3", "look 0 0 1 = 1",
                "on 0 0..3 = 1 0 0 0", "place 0..1 3 = 2 1", "place 0..1 2 = 1 1");
    }

    /** 64: "(ahead of the last) .. -2, -5 likewise". */
    private static void sneezeAheadOfTheLast() {
        Caller x = Caller.of("sneeze at each STEP", TWO.replace("show 1 at 1;", ""));
        x.due("sneeze 0 0..2 = 1", "sneeze 0 3..4 = -2", "sneeze 0 -1 = -2", "sneeze 2 0 = -2", "sneeze -1 0 = -2",
                "count 7 = 3", "awake 0..2 = 2", "place 0 0..3 = 0 1 2 3", "sneeze 1 2 = 1", "awake 2 = 0",
                "place 0 3 = 2");
    }

    /** 64: "1 if her eyes counted at it till then, else 0." */
    private static void sneezeIfHerEyesCounted() {
        Caller x = Caller.of("sneeze till then", TWO);
        x.due("sneeze 0 0 = 1", "sneeze 0 0 = 0", "sneeze 0 1 = 0", "sneeze 0 1 = 0", "sneeze 1 0 = 1", "count 7 = 5");
        // Her eyes count again where the last sneeze is taken back, not where one of two is.
        x.due("awake 0..2 = 0 0 3", "undo = 4", "awake 0 = 2", "undo = 3", "undo = 2", "undo = 1", "awake 0 = 2",
                "undo = 0", "awake 0 = 3", "sneeze 0 0 = 1");
    }

    /** III: one who sneezes LOOKS as before; her eyes alone do not count. */
    private static void sneezeDoesNotTurn() {
        Caller x = Caller.of("sneeze does not turn", TWO);
        x.due("sneeze 0 0 = 1", "on 0 0..3 = 0", "lookers 0 0 = 3", "eyes 0 0 = 1", "faithful = 3", "look 0 1 0 = 0",
                "eyes 0..1 0 = 1 0", "lookers 0..1 0 = 2 1", "awake 0 = 2", "sneeze 1 0 = 1", "unseen 0 = 0",
                "eyes 0 0 = 0");
    }

    /** 63, 64: "-5: there are 30 acts (not taken back)". */
    private static void thirtyActs() {
        Caller x = Caller.of("thirty acts", TWO);
        for (int act = 1; act <= 30; act++) {
            x.due("count 7 = " + (act - 1), act % 2 == 0 ? "look 0 0 0 = 0" : act == 1 ? "sneeze 0 0 = 1"
                    : "sneeze 0 0 = 0");
        }
        x.due("count 7 = 30", "look 0 1 0 = -5", "sneeze 1 0 = -5", "count 7 = 30", "on 0 0 = 0", "awake 0 = 2");
        x.due("undo = 29", "look 0 1 0 = 0", "count 7 = 30", "on 0 0 = 1", "look 0 1 0 = -5", "sneeze 1 0 = -5");
        x.due("undo = 29", "sneeze 1 0 = 1", "awake 0 = 0", "sneeze 1 0 = -5", "count 7 = 30", "anew = 30",
                "count 7 = 0", "awake 0 = 3", "look 0 1 0 = 0", "count 7 = 1");
    }

    /** A -5 changes nothing; neither does one of rate(). */
    private static void thirtyActsRefuseOthers() {
        Caller x = Caller.of("thirty acts refuse", TWO);
        Caller same = Caller.of("thirty acts refuse, the same", TWO);
        for (Caller each : List.of(x, same)) {
            for (int act = 0; act < 30; act++) {
                each.ask("look " + act % 2 + " " + act / 2 % 2 + " " + act % 4);
            }
        }
        x.due("look 0..1 0 0 = -5", "look 0 1 3 = -5", "sneeze 0..1 2 = -5", "rate 0..1 9 = -5");
        Check.holds("thirty acts refuse, nothing changes", x.state().equals(same.state()));
        x.due("back 0 = -6", "count 7 = 30", "image 0 = 0", "anew = 30", "back 0 = 0", "count 7 = 30",
                "look 0 0 0 = -5", "sneeze 0 0 = -5", "rate 0 1 = -5", "undo = 29");
    }

    /** The last of thirty counts: the acts are kept as they were given. */
    private static void thirtyActsOfOneStep() {
        Caller x = Caller.of("thirty acts of one STEP", RACE + BOAT.repeat(5) + "watcher eyes 1 sees 0 to 0 on 0;");
        for (int act = 0; act < 30; act++) {
            x.due("look 0 " + (act + 1) % 5 + " 2 = " + act % 5);
        }
        x.due("on 0 0..3 = 0", "look 0 4 2 = -5");
        for (int act = 29; act > 0; act--) {
            x.due("undo = " + act, "on 0 2..3 = " + act % 5);
        }
    }

    /** I: "-2 is asked ahead of -5". */
    private static void noSuchAheadOfTooMany() {
        Caller x = Caller.of("-2 ahead of -5", TWO);
        for (int act = 0; act < 30; act++) {
            x.ask("sneeze 0 0");
        }
        x.due("look 0 0 0 = -5", "look -1 0 0 = -2", "look 2 0 0 = -2", "look 0 -1 0 = -2", "look 0 2 0 = -2",
                "look 0 0 -1 = -2", "look 0 0 4 = -2", "look MIN 0 0 = -2", "look 0 MAX 0 = -2", "look 0 0 MAX = -2");
        x.due("sneeze 0 0 = -5", "sneeze -1 0 = -2", "sneeze 2 0 = -2", "sneeze 0 -1 = -2", "sneeze 0 3 = -2",
                "sneeze MAX 0 = -2", "sneeze 0 MIN = -2");
        x.due("rate 0 1 = -5", "rate -1 1 = -2", "rate 2 1 = -2", "rate 0 0 = -2", "rate 0 10 = -2", "rate MIN 1 = -2",
                "rate 0 MAX = -2", "rate 0 MIN = -2");
        Caller none = new Caller("acts without a RACE");
        none.due("look 0 0 0 = -2", "sneeze 0 0 = -2", "rate 0 1 = -2", "undo = -2", "anew = -2");
    }

    /** 65: "how many there are. -2: there is no RACE; -5: there is none." */
    private static void undoToNone() {
        new Caller("undo without a RACE").due("undo = -2", "race = 0", "undo = -2");
        Caller x = Caller.of("undo", TWO);
        x.due("undo = -5", "look 0 1 0 = 0", "undo = 0", "undo = -5", "undo = -5", "count 7 = 0", "look 0 1 0 = 0",
                "sneeze 0 0 = 1", "undo = 1", "undo = 0", "undo = -5", "race = 0", "undo = -2");
        Caller empty = Caller.of("undo without BOATS", RACE);
        empty.due("undo = -5", "anew = 0", "look 0 0 0 = -2", "sneeze 0 0 = -2");
    }

    /** 65: each act taken back is as if it had not been. */
    private static void undoBringsBack() {
        Caller x = Caller.of("undo brings back", TWO);
        List<Long> before = x.state();
        x.due("look 0 1 0 = 0", "sneeze 1 2 = 1", "look 1 1 3 = 0", "undo = 2", "undo = 1", "undo = 0");
        Check.holds("undo brings back", x.state().equals(before));
        x.due("look 0 1 0 = 0", "look 1 1 0 = 0");
        before = x.state();
        x.due("sneeze 0 0 = 1", "undo = 2");
        Check.holds("undo brings back one", x.state().equals(before));
    }

    /** 66: "All are: how many there were. -2 likewise." */
    private static void anewOfAll() {
        new Caller("anew without a RACE").due("anew = -2", "race = 0", "anew = -2");
        Caller x = Caller.of("anew", TWO);
        List<Long> before = x.state();
        x.due("anew = 0", "look 0 1 0 = 0", "anew = 1", "anew = 0", "undo = -5", "look 0 1 0 = 0", "sneeze 1 2 = 1",
                "look 1 1 3 = 0", "anew = 3", "count 7 = 0");
        Check.holds("anew brings back", x.state().equals(before));
        x.due("rate 0 3 = 1", "look 0 1 0 = 0", "anew = 1", "boat 0 1 = 3");
    }

    /** 69: "needs of a BOAT is n (1 .. 9) from now on: what it was." */
    private static void rateFromOneToNine() {
        Caller x = Caller.of("rate", "race steps 1 law 0 goal 60 odds 0; boat at 0 needs 4; boat at 0 needs 9;"
                + "watcher eyes 9 sees 0 to 0 on 0;");
        x.due("rate 0 0 = -2", "rate 0 10 = -2", "rate 0 -1 = -2", "rate 0 MIN = -2", "rate 0 MAX = -2",
                "rate 2 1 = -2", "rate -1 1 = -2", "boat 0..1 1 = 4 9");
        int was = 4;
        int[] paces = {3, 3, 3, 2, 1, 1, 1, 1, 1};
        for (int needs = 1; needs <= 9; needs++) {
            x.due("rate 0 " + needs + " = " + was, "boat 0..1 1 = " + needs + " 9", "place 0 1 = " + paces[needs - 1],
                    "far 0 = " + paces[needs - 1]);
            was = needs;
        }
        x.due("rate 0 9 = 9", "rate 1 1 = 9", "boat 0..1 1 = 9 1", "lacks 1 0 = 1", "count 7 = 0", "undo = -5",
                "handicap 0 = 1", "boat 0 1 = 9");
    }

    /** 69: "-5: there are acts that are not taken back." */
    private static void rateWithActs() {
        Caller x = Caller.of("rate with acts", TWO);
        x.due("sneeze 0 0 = 1", "rate 0 2 = -5", "boat 0 1 = 1", "undo = 0", "rate 0 2 = 1", "look 0 0 0 = 0",
                "rate 0 3 = -5", "anew = 1", "rate 0 3 = 2", "boat 0 1 = 3", "look 0 1 0 = 0", "look 0 0 0 = 1",
                "undo = 1", "rate 0 4 = -5", "undo = 0", "rate 0 4 = 3");
        x.feed(TWO);
        x.due("look 0 1 0 = 0", "rate 0 1 = -5", "race = 6", "rate 0 1 = 1", "boat 0 1 = 1");
    }

    /** 70: "NONE for others." */
    private static void countEach() {
        Caller none = new Caller("count without a RACE");
        none.due("count 0..10 = 0", "count -1 = -1", "count 11..20 = -1", "count MIN = -1", "count MAX = -1");
        Caller x = Caller.of("count", "race steps 7 law 2 goal 33 odds 4; boat at 1 needs 2; boat at 2 needs 1;"
                + "boat at 0 needs 3; watcher eyes 4 sees 1 to 2 on 1; watcher eyes 1 sees 0 to 0 on 0; show 3 at 0;");
        x.due("count 0..11 = 7 2 33 4 3 2 1 0 7 0 0 -1", "count -1 = -1", "look 0 0 0 = 1", "feed 0 0 0 0 0 = 20",
                "row 2 0 0 = 0", "count 0..11 = 7 2 33 4 3 2 1 1 7 20 1 -1", "end 3 = 3", "row 2 1 5 = 0",
                "row 0 1 5 = 0", "sneeze 0 0 = 1", "count 7..11 = 2 7 3 2 -1", "by 0..3 = -1", "count 1 = 2");
    }

    private static void countAtMost() {
        Caller x = Caller.of("count at most", "race steps 20 law 3 goal 60 odds 10;" + BOAT.repeat(5)
                + WATCHER.repeat(5) + "show 9 at 19;".repeat(5));
        for (int i = 0; i < 30; i++) {
            x.due("sneeze 0 19 = 0", "feed 0 0 0 0 0 = " + 20 * (i + 1));
        }
        x.due("row 0..3 3 60 = 0", "count 0..11 = 20 3 60 10 5 5 5 30 16 600 4 -1");
    }

    /** 71, 72: "-2: no such k; -6: it has nothing." */
    private static void imagesThereAre() {
        Caller x = Caller.of("images", TWO);
        x.due("image -1 = -2", "image 3 = -2", "image MIN = -2", "image MAX = -2", "back -1 = -2", "back 3 = -2",
                "back MIN = -2", "back MAX = -2", "back 0..2 = -6");
        for (int k = 0; k < 3; k++) {
            x.due("back " + k + " = -6", "image " + k + " = 0", "back " + k + " = 0");
        }
        x.due("image 0..2 = 0", "back 0..2 = 0", "count 4..8 = 2 2 1 0 6", "race = 0", "back 0 = 0", "count 8 = 6");
        Caller refused = Caller.of("a refused back changes nothing", TWO);
        refused.due("look 0 1 0 = 0", "back 0 = -6", "back 3 = -2", "image 3 = -2", "count 7 = 1", "on 0 0 = 1",
                "back 0..2 = -6");
    }

    /** 71: "keeps the RACE, and acts", also where there is none. */
    private static void imageOfNoRace() {
        Caller x = new Caller("image of no RACE");
        x.due("image 1 = 0", "back 1 = 0", "wins = -2", "back 0 = -6", "back 2 = -6", "count 0..10 = 0");
        x.feed(TWO);
        x.due("race = 6", "image 0 = 0", "look 0 1 0 = 0", "back 1 = 0", "wins = -2", "count 0..10 = 0",
                "place 0 0 = -2", "undo = -2", "can = -2", "back 0 = 0", "wins = -1",
                "count 7..8 = 0 6", "place 0 0..3 = 0 2 2 4");
    }

    /** 71, 72: "It is as IMAGE k has it": needs changed and thirty acts, too. */
    private static void imageKeepsRaceAndActs() {
        Caller x = Caller.of("image keeps", TWO);
        x.due("rate 1 2 = 1", "look 0 1 0 = 0", "look 1 1 0 = 0", "sneeze 0 2 = 1");
        List<Long> kept = x.state();
        x.due("image 2 = 0", "anew = 3", "rate 1 1 = 2", "back 2 = 0");
        Check.holds("image keeps RACE and acts", x.state().equals(kept));
        x.due("undo = 2", "awake 2 = 3", "back 2 = 0", "count 7 = 3", "awake 2 = 2", "anew = 3", "boat 1 1 = 2",
                "on 0..1 0 = 0");
        Caller other = Caller.of("image of another RACE", TWO);
        other.due("image 0 = 0");
        other.feed("race steps 20 law 3 goal 7 odds 9;" + BOAT.repeat(5) + "watcher eyes 9 sees 0 to 4 on 4;".repeat(5)
                + "show 9 at 19;".repeat(5));
        other.due("race = 16", "image 1 = 0", "back 0 = 0", "count 0..8 = 3 0 60 0 2 2 1 0 6", "place 0 3 = 4",
                "show 0 0..1 = 1 1", "back 1 = 0", "count 0..8 = 20 3 7 9 5 5 5 0 16", "watcher 4 0..3 = 9 0 4 4",
                "show 4 0..1 = 9 19", "place 4 1 = 3", "can = 31", "far 0..4 = 7", "back 0 = 0", "can = 0",
                "far 0..1 = 4");
    }

    /** 71: "and acts": of each its WATCHER, BOAT and STEP, where others have been given since. */
    private static void imageKeepsActs() {
        Caller x = Caller.of("image keeps acts", TWO);
        x.due("look 0 1 0 = 0", "look 1 1 2 = 0", "sneeze 0 2 = 1", "sneeze 1 0 = 1");
        List<Long> kept = x.state();
        x.due("image 1 = 0", "anew = 4", "sneeze 1 2 = 1", "look 0 1 1 = 0", "look 1 1 3 = 0", "look 1 0 0 = 0",
                "image 2 = 0", "back 1 = 0");
        Check.holds("image keeps acts, each of them", x.state().equals(kept));
        x.due("on 0 0..3 = 1", "on 1 0..3 = 0 0 1 1", "awake 0..2 = 1 0 2", "undo = 3", "awake 0 = 3", "undo = 2",
                "awake 2 = 3", "undo = 1", "on 1 0..3 = 0", "undo = 0", "on 0 0..3 = 0", "back 2 = 0",
                "on 0 0..3 = 0 1 1 1", "on 1 0..3 = 0 0 0 1", "awake 0..2 = 3 0 1");
    }

    /** 71: what comes later does not change an IMAGE; a later image() in its place does. */
    private static void imageStaysAsItWas() {
        Caller x = Caller.of("image stays", TWO);
        x.due("image 0 = 0", "look 0 1 0 = 0", "image 1 = 0", "look 1 1 0 = 0", "back 0 = 0", "count 7 = 0",
                "on 0..1 0 = 0", "sneeze 0 0 = 1", "back 1 = 0", "count 7 = 1", "on 0..1 0 = 1 0", "awake 0 = 3",
                "undo = 0", "rate 0 9 = 1", "back 1 = 0", "boat 0 1 = 1", "count 7 = 1", "image 0 = 0", "anew = 1",
                "back 0 = 0", "count 7 = 1");
        x.feed(RACE);
        x.due("race = 1", "back 1 = 0", "count 4 = 2", "image 1 = 0", "back 0 = 0", "count 4 = 2");
        x.feed("@");
        x.due("race = -4", "back 1 = 0", "count 7 = 1", "back 2 = -6");
    }

    /** 72: the TAPE, the SLOTS, the FAULT and the other IMAGES are no part of it. */
    private static void backKeepsAllElse() {
        Caller x = Caller.of("back keeps", TWO);
        x.due("image 0 = 0", "row 0 0 3 = 0", "write 0 0 1 = 0");
        x.feed("race steps 21");
        x.due("race = -4", "feed 0 0 0 0 0 = 20", "back 0 = 0", "fault 0..1 = 2 11", "count 9..10 = 20 1", "fits 0 = 4",
                "write 0 2 1 = 0", "fits 0 = 0", "back 0 = 0", "fits 0 = 0", "end 0 = 0", "race = 0", "fits 0 = -2",
                "back 0 = 0", "fits 0 = 0", "fault 0..1 = 0 -1", "write 0 2 0 = 0", "fits 0 = 4");
    }

    /** "An object is used for at most 512 calls": the last of them answers as the first. */
    private static void callsAtMost() {
        Caller x = Caller.of("512 calls", TWO);
        while (x.callsMade() < 509) {
            x.due("look 0 1 0 = 0", "undo = 0");
        }
        while (x.callsMade() < 511) {
            x.due("on 0 3 = 0");
        }
        x.due("place 0 3 = 4");
        Check.due("calls made", x.callsMade(), 512);
    }
}
