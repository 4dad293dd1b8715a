/** The bounds in how a RACE goes (terms I to IV, promises 6 to 37), sentence by sentence, by hand. */
public final class CourseBoundsTest {
    /** All at its most: 20 STEPS, five of a kind. */
    private static final String FULL = "race steps 20 law 0 goal 60 odds 10;"
            + "boat at 0 needs 9; boat at 30 needs 9; boat at 1 needs 1; boat at 0 needs 3; boat at 5 needs 9;"
            + "watcher eyes 9 sees 0 to 4 on 0; watcher eyes 8 sees 1 to 4 on 1; watcher eyes 1 sees 2 to 2 on 2;"
            + "watcher eyes 9 sees 0 to 3 on 3; watcher eyes 1 sees 4 to 4 on 4;"
            + "show 1 at 0; show 9 at 19; show 1 at 19; show 8 at 10; show 9 at 18;";
    /** All at its least: one STEP, nobody. */
    private static final String EMPTY = "race steps 1 law 0 goal 1 odds 0;";
    private static final String NOBODY = "race steps 2 law 3 goal 3 odds 0; boat at 2 needs 1; boat at 2 needs 9;";

    private CourseBoundsTest() {
    }

    public static void main(String[] args) {
        fullAsTold();
        fullPlaces();
        fullLooks();
        fullBoats();
        fullWatchers();
        noBoats();
        noWatchers();
        moreOfOneKind();
        showsBeyondTheLastStep();
        startsAtGoalAtMost();
        eyesByNeedsCut();
        threeAtMost();
        goalAtMost();
        luresAsManyAsEyes();
        becalmedUnlessAtGoal();
        lawNot();
        lawFarthest();
        lawLeastFar();
        lawNext();
        earliestWins();
        changesOfTheLeader();
        drops();
        passes();
        evens();
        gazes();
        lacks();
        faithfuls();
        shortBehindLong();
        Check.finish("CourseBoundsTest");
    }

    /** 6, 7, 8, 70 and I: "BOATS 0 .. 4, WATCHERS 0 .. 4, SHOWS 0 .. 4 are numbered as they stand." */
    private static void fullAsTold() {
        Caller x = Caller.of("full, as told", FULL);
        x.due("count 0..9 = 20 0 60 10 5 5 5 0 16 0", "boat 0..4 0 = 0 30 1 0 5", "boat 0..4 1 = 9 9 1 3 9");
        x.due("watcher 0..4 0 = 9 8 1 9 1", "watcher 0..4 1 = 0 1 2 0 4", "watcher 0..4 2 = 4 4 2 3 4",
                "watcher 0..4 3 = 0 1 2 3 4", "show 0..4 0 = 1 9 1 8 9", "show 0..4 1 = 0 19 19 10 18");
        x.due("look 0 4 0 = 0", "rate 1 1 = -5", "watcher 0 3 = 0", "boat 1 1 = 9");
        Caller one = Caller.of("the start as told", "race steps 1 law 0 goal 1 odds 0; boat at 30 needs 9;");
        one.due("boat 0 0..1 = 30 9", "place 0 0..1 = 1");
    }

    /** 9, 25, 28 and III at all STEPS, 0 and 20 too; SHOWS at 0, 10, 18 and 19 draw eyes away. */
    private static void fullPlaces() {
        Caller x = Caller.of("full, places", FULL);
        x.due("place 0 0..20 = 0 1 2 3 4 5 6 7 8 9 10 11 12 13 14 15 16 17 18 18 18");
        x.due("place 1 0..20 = 30", "place 4 0..20 = 5");
        x.due("place 2 0..20 = 1 1 2 3 4 5 6 7 8 9 10 10 11 12 13 14 15 16 17 17 17");
        x.due("place 3 0..20 = 0 3 6 9 12 15 18 21 24 27 30 33 36 39 42 45 48 51 54 54 54");
        x.due("speed 0 0..20 = 1 1 1 1 1 1 1 1 1 1 1 1 1 1 1 1 1 1 0 0 -2");
        x.due("speed 3 17..20 = 3 0 0 -2", "speed 2 0..1 = 0 1", "speed 3 -1 = -2");
        x.due("fleet 0..2 = 36 40 45", "fleet 19..21 = 124 124 -2", "fleet -1 = -2");
        x.due("gap 1 0 0..1 = 30 29", "gap 0 1 0 = -30", "gap 3 1 20 = 24", "gap 1 3 20 = -24", "gap 4 4 20 = 0",
                "gap 4 4 21 = -1000", "gap 0 5 0 = -1000", "gap 5 0 0 = -1000", "gap 0 0 -1 = -1000");
    }

    /** 10 to 13, 26, 27, 31. */
    private static void fullLooks() {
        Caller x = Caller.of("full, looks", FULL);
        x.due("on 0..4 0 = 0 1 2 3 4", "on 0..4 20 = 0 1 2 3 4", "lookers 0..4 0 = 1 2 4 8 16",
                "lookers 0..4 20 = 1 2 4 8 16", "lookers 0 21 = -2", "unseen 0..20 = 0", "unseen 21 = -2");
        x.due("awake 0 = 11", "awake 1..9 = 31", "awake 10 = 9", "awake 11..17 = 31", "awake 18..19 = 0",
                "awake 20 = -2");
        x.due("eyes 0 0 = 9", "eyes 0 17..20 = 9 0 0 -2", "eyes 2 0..1 = 0 1", "eyes 1 9..11 = 8 0 8",
                "eyes 4 -1 = -2");
        x.due("lacks 0 0 = 0", "lacks 0 18..20 = 9 9 -2", "lacks 1 0 = 1", "lacks 1 10 = 9", "lacks 2 0..1 = 1 0",
                "lacks 3 0 = 0", "lacks 4 0..1 = 9 8");
        // 18 of 20 STEPS; 17, as she is lured away at 10, too; 16, at 0, too.
        x.due("total 0..4 = 162 136 16 162 16", "total 5 = -2");
    }

    /** 14 to 23, 33 to 37. */
    private static void fullBoats() {
        Caller x = Caller.of("full, boats", FULL);
        x.due("leads 0..10 = 1", "leads 11..20 = 3", "leads 21 = -2", "lags 0..5 = 0", "lags 6..20 = 4",
                "lags 21 = -2");
        x.due("front 0..5 = 0 11 0 10 0 -2", "changes = 1", "wins = -1", "home 0..4 = -1", "arrived 0..20 = 0");
        x.due("behind 0..4 0 = 3 0 2 3 1", "behind 0..4 20 = 2 1 3 0 4", "behind 0 21 = -2");
        x.due("order 0..5 0 = 1 4 2 0 3 -2", "order 0..5 20 = 3 1 0 2 4 -2", "order -1 0 = -2", "order 0 21 = -2");
        // BOAT 1 and 4 at all STEPS ahead of the last, the others where all eyes on them are drawn away.
        x.due("calm 0..4 = 786432 1048575 787457 786432 1048575", "calm 5 = -2", "drops = 0", "calmest = 1");
        x.due("even 0 0 = 21", "even 1 3 = 1", "even 0 3 = 1", "even 0 2 = 10", "even 0 4 = 1", "even 1 4 = 0");
        x.due("passes 3 1 = 11", "passes 0 4 = 6", "passes 1 3 = -1", "passes 4 4 = -1", "passes 0 2 = 11");
    }

    /** 24, 29, 30, 32. */
    private static void fullWatchers() {
        Caller x = Caller.of("full, watchers", FULL);
        x.due("wavers 0..5 = 0 0 0 0 0 -2", "gaze 0..5 = 0 1 2 3 4 -2", "faithful = 31");
        x.due("seers 0..5 = 9 11 15 11 19 -2");
        Caller y = Caller.of("full, by LAW 3", FULL.replace("law 0", "law 3"));
        y.due("wavers 0..4 = 20 20 0 20 0", "faithful = 20", "on 0 0..20 = 0 1 2 3 4 0 1 2 3 4 0 1 2 3 4 0 1 2 3 4 0");
        y.due("on 1 0..5 = 1 2 3 4 1 2", "on 3 0..5 = 3 0 1 2 3 0", "on 4 0..20 = 4", "gaze 0 = 0", "gaze 1 = 1",
                "gaze 3 = 3");
    }

    /** A RACE of no BOATS is one: "NONE: there are none" (14, 15), "NONE: at none", "none", or nothing as bits. */
    private static void noBoats() {
        Caller x = Caller.of("no boats", EMPTY);
        x.due("leads 0..1 = -1", "leads 2 = -2", "leads -1 = -2", "lags 0..1 = -1", "lags 2 = -2", "lags -1 = -2");
        x.due("drops = -1", "wins = -1", "changes = 0", "calmest = -1", "faithful = 0", "fleet 0..1 = 0",
                "fleet 2 = -2",
                "unseen 0..1 = 0", "unseen 2 = -2", "arrived 0..1 = 0", "arrived 2 = -2", "awake 0..1 = 0 -2");
        x.due("order 0 0 = -2", "boat 0 0 = -2", "watcher 0 0 = -2", "show 0 0 = -2", "place 0 0 = -2", "front 0 = -2");
        x.due("gap 0 0 0 = -1000", "even 0 0 = -2", "passes 0 0 = -2", "count 0..9 = 1 0 1 0 0 0 0 0 1 0");
        Caller shows = Caller.of("shows alone", EMPTY + "show 9 at 0;".repeat(5));
        shows.due("awake 0 = 0", "show 4 0..1 = 9 0", "show 5 0 = -2", "count 4..6 = 0 0 5");
    }

    private static void noWatchers() {
        Caller x = Caller.of("no watchers", NOBODY);
        x.due("place 0..1 0 = 2", "place 0..1 2 = 2", "on 0 0 = -2", "lookers 0..1 2 = 0", "unseen 0..2 = 3",
                "eyes 0 0 = 0",
                "awake 0..1 = 0", "lacks 0..1 1 = 1 9", "total 0..1 = 0", "calm 0..1 = 3", "drops = 0", "calmest = 0",
                "faithful = 0", "seers 0..1 = 0", "wins = -1", "gaze 0 = -2", "wavers 0 = -2", "front 0..1 = 3 0",
                "even 0 1 = 3", "watcher 0 0 = -2");
    }

    /** I: as many of a kind as are told, however many there are of the others. */
    private static void moreOfOneKind() {
        Caller boats = Caller.of("more BOATS", "race steps 20 law 0 goal 60 odds 0; boat at 4 needs 9;"
                + "boat at 3 needs 9; boat at 2 needs 9; boat at 1 needs 9; boat at 0 needs 9;"
                + "watcher eyes 1 sees 0 to 0 on 0;");
        boats.due("behind 0..5 20 = 0 1 2 3 4 -2", "order 0..5 20 = 0 1 2 3 4 -2", "lags 20 = 4", "fleet 20 = 10",
                "unseen 20 = 30", "calm 4 = 1048575", "even 3 4 = 0", "arrived 20 = 0", "watcher 1 0 = -2");
        Caller watchers = Caller.of("more WATCHERS", "race steps 3 law 0 goal 60 odds 0;"
                + "boat at 0 needs 5;".repeat(2) + "watcher eyes 1 sees 0 to 1 on 1;".repeat(5));
        watchers.due("on 0..5 3 = 1 1 1 1 1 -2", "place 1 0..3 = 0 1 2 3", "lookers 0..2 3 = 0 31 -2", "awake 2 = 31",
                "faithful = 31", "seers 0..1 = 31", "boat 2 0 = -2");
        Caller shows = Caller.of("more SHOWS", "race steps 1 law 0 goal 60 odds 0; boat at 0 needs 1;"
                + "watcher eyes 5 sees 0 to 0 on 0; show 1 at 0; show 1 at 0; show 1 at 0; show 1 at 0; show 5 at 0;");
        shows.due("awake 0 = 0", "show 4 0 = 5", "clear 4 = -1", "boat 1 0 = -2", "watcher 1 0 = -2");
    }

    /** I: a SHOW is at 0 .. 19, also where the RACE has fewer STEPS. */
    private static void showsBeyondTheLastStep() {
        String race = "race steps 2 law 0 goal 9 odds 0; boat at 0 needs 1; watcher eyes 1 sees 0 to 0 on 0;";
        Caller x = Caller.of("a show at the last STEP and behind it", race + "show 9 at 2; show 9 at 3; show 9 at 19;");
        x.due("place 0 0..2 = 0 1 2", "awake 0..2 = 1 1 -2", "eyes 0 1 = 1", "show 0..2 1 = 2 3 19");
        Caller y = Caller.of("a show at the STEP ahead of the last", race + "show 9 at 1;");
        y.due("place 0 0..2 = 0 1 1", "awake 0..1 = 1 0");
    }

    /** II: "At STEP 0 each BOAT is at its start (goal at most)". */
    private static void startsAtGoalAtMost() {
        Caller x = Caller.of("starts", "race steps 1 law 0 goal 6 odds 0; boat at 0 needs 1; boat at 5 needs 1;"
                + "boat at 6 needs 1; boat at 7 needs 1; boat at 30 needs 1;");
        x.due("place 0..4 0 = 0 5 6 6 6", "boat 0..4 0 = 0 5 6 7 30", "home 0..4 = -1 -1 0 0 0", "arrived 0 = 28",
                "wins = 2", "leads 0 = 2", "fleet 0 = 23");
        Caller y = Caller.of("starts below goal", "race steps 1 law 0 goal 31 odds 0; boat at 30 needs 1;");
        y.due("place 0 0 = 30", "home 0 = -1");
        Caller z = Caller.of("starts at goal", "race steps 1 law 0 goal 30 odds 0; boat at 30 needs 1;");
        z.due("place 0 0 = 30", "home 0 = 0");
    }

    /** III: "farther by EYES by needs, cut". */
    private static void eyesByNeedsCut() {
        for (int needs = 1; needs <= 9; needs++) {
            for (int eyes = 1; eyes <= 9; eyes++) {
                Caller x = Caller.of("EYES " + eyes + " by " + needs,
                        "race steps 1 law 0 goal 60 odds 0; boat at 7 needs "
                        + needs + "; watcher eyes " + eyes + " sees 0 to 0 on 0;");
                int pace = eyes < needs ? 0 : eyes < 2 * needs ? 1 : eyes < 3 * needs ? 2 : 3;
                x.due("place 0 1 = " + (7 + pace), "speed 0 0 = " + pace, "calm 0 = " + (pace == 0 ? 1 : 0));
            }
        }
    }

    /** III: "3 at most", also of all EYES together. */
    private static void threeAtMost() {
        String watcher = "watcher eyes 9 sees 0 to 0 on 0;";
        for (int watchers = 1; watchers <= 5; watchers++) {
            Caller x = Caller.of("of " + watchers, "race steps 20 law 0 goal 60 odds 0; boat at 0 needs 9;"
                    + watcher.repeat(watchers));
            int pace = Math.min(3, watchers);
            x.due("eyes 0 0..19 = " + 9 * watchers, "place 0 1 = " + pace, "place 0 20 = " + 20 * pace,
                    "total 0 = " + 180 * watchers);
        }
        Caller most = Caller.of("EYES at most by needs at least",
                "race steps 1 law 0 goal 60 odds 0; boat at 0 needs 1;"
                + watcher.repeat(5));
        most.due("eyes 0 0 = 45", "place 0 1 = 3");
        Caller home = Caller.of("goal at the last STEP", "race steps 20 law 0 goal 60 odds 0; boat at 0 needs 3;"
                + watcher);
        home.due("place 0 19..20 = 57 60", "home 0 = 20", "wins = 0", "arrived 19..20 = 0 1");
    }

    /** III: "at goal at most". */
    private static void goalAtMost() {
        String text = "race steps 3 law 0 goal 10 odds 0; boat at # needs 3; watcher eyes 9 sees 0 to 0 on 0;";
        Caller.of("two ahead of goal", text.replace("#", "8")).due("place 0 0..3 = 8 10 10 10", "speed 0 0..2 = 2 0 0");
        Caller.of("one ahead of goal", text.replace("#", "9")).due("place 0 0..3 = 9 10 10 10", "speed 0 0..2 = 1 0 0");
        Caller.of("three ahead of goal", text.replace("#", "7")).due("place 0 0..3 = 7 10 10 10", "home 0 = 1");
        Caller.of("four ahead of goal", text.replace("#", "6")).due("place 0 0..3 = 6 9 10 10", "home 0 = 2");
        Caller.of("at goal", text.replace("#", "10")).due("place 0 0..3 = 10", "eyes 0 0..2 = 9", "speed 0 0..2 = 0");
    }

    /** III: "whose eyes are no more than the lure of a SHOW at it". */
    private static void luresAsManyAsEyes() {
        String race = "race steps 3 law 0 goal 60 odds 0; boat at 0 needs 1;";
        for (int eyes = 1; eyes <= 9; eyes++) {
            for (int lure = 1; lure <= 9; lure++) {
                Caller x = Caller.of("eyes " + eyes + " lure " + lure, race + "watcher eyes " + eyes
                        + " sees 0 to 0 on 0; show " + lure + " at 1;");
                int count = eyes > lure ? 1 : 0;
                x.due("awake 0..2 = 1 " + count + " 1", "eyes 0 1 = " + count * eyes, "lookers 0 1 = 1");
            }
        }
        Caller two = Caller.of("two shows at a STEP", race + "watcher eyes 4 sees 0 to 0 on 0;"
                + "watcher eyes 7 sees 0 to 0 on 0; watcher eyes 8 sees 0 to 0 on 0; show 7 at 0; show 3 at 0;"
                + "show 4 at 1; show 4 at 1; show 8 at 2;");
        two.due("awake 0..2 = 4 6 0", "eyes 0 0..2 = 8 15 0");
    }

    /** III: "With 0 it is BECALMED (unless it is at goal)." 18: as bits, 19: the first, 37: the first of several. */
    private static void becalmedUnlessAtGoal() {
        String race = "race steps 4 law 0 goal 4 odds 0; boat at 3 needs 2; boat at 4 needs 2; boat at 0 needs 2;";
        Caller x = Caller.of("becalmed", race + "watcher eyes 1 sees 0 to 0 on 0; watcher eyes 2 sees 2 to 2 on 2;"
                + "show 2 at 2;");
        x.due("calm 0..2 = 15 0 4", "drops = 0", "calmest = 0", "place 2 0..4 = 0 1 2 2 3");
        Caller y = Caller.of("becalmed till goal", race
                + "watcher eyes 2 sees 0 to 0 on 0; watcher eyes 2 sees 0 to 2 on 2;"
                + "show 2 at 0;");
        y.due("calm 0..2 = 1 0 1", "place 0 0..4 = 3 3 4 4 4", "calmest = 0", "drops = 0");
        Caller z = Caller.of("becalmed at the last STEP that counts", race.replace("at 0", "at 4").replace("at 3",
                "at 0")
                + "watcher eyes 3 sees 0 to 0 on 0; show 3 at 3;");
        z.due("calm 0..2 = 8 0 0", "drops = 3", "calmest = 0");
        Caller since = Caller.of("not becalmed since it is at goal", "race steps 3 law 0 goal 2 odds 0;"
                + "boat at 0 needs 1; watcher eyes 2 sees 0 to 0 on 0; show 2 at 1; show 2 at 2;");
        since.due("place 0 0..3 = 0 2 2 2", "eyes 0 0..2 = 2 0 0", "calm 0 = 0", "drops = -1", "calmest = -1",
                "rate 0 2 = 1", "calm 0 = 6", "drops = 1", "calmest = 0");
        Caller none = Caller.of("becalmed at none", race.replace("boat at 0", "boat at 4")
                + "watcher eyes 2 sees 0 to 0 on 0;");
        none.due("calm 0..2 = 0", "drops = -1", "calmest = -1");
        Caller last = Caller.of("becalmed at more STEPS, behind", "race steps 2 law 0 goal 9 odds 0; boat at 0 needs 1;"
                + "boat at 0 needs 1; watcher eyes 1 sees 0 to 0 on 0; show 1 at 1;");
        last.due("calm 0..1 = 2 3", "calmest = 1", "drops = 0");
        Caller full = Caller.of("becalmed at all of twenty", "race steps 20 law 0 goal 1 odds 0; boat at 0 needs 1;");
        full.due("calm 0 = 1048575");
    }

    private static String lawRace(int law, String boats, String watchers) {
        return "race steps 3 law " + law + " goal 30 odds 0;" + boats + watchers;
    }

    /** II: "LAW, 0: not". */
    private static void lawNot() {
        Caller x = Caller.of("LAW 0", lawRace(0, "boat at 0 needs 1; boat at 9 needs 1; boat at 5 needs 1;",
                "watcher eyes 1 sees 0 to 2 on 2; watcher eyes 1 sees 0 to 2 on 0;"));
        x.due("on 0 0..3 = 2", "on 1 0..3 = 0", "look 0 1 1 = 2", "on 0 0..3 = 2 1 1 1");
    }

    /** II: "1: to that BOAT she sees which is farthest then, the first of several". */
    private static void lawFarthest() {
        Caller x = Caller.of("LAW 1", lawRace(1,
                "boat at 9 needs 1; boat at 4 needs 9; boat at 5 needs 1; boat at 5 needs 9;"
                + "boat at 8 needs 9;", "watcher eyes 1 sees 1 to 3 on 1; watcher eyes 1 sees 2 to 4 on 3;"
                + "watcher eyes 1 sees 3 to 3 on 3; watcher eyes 1 sees 0 to 4 on 4;"
                + "watcher eyes 1 sees 1 to 2 on 1;"));
        x.due("on 0 0..1 = 1 2", "on 1 0..1 = 3 4", "on 2 0..3 = 3", "on 3 0..1 = 4 0", "on 4 0..1 = 1 2");
        Caller then = Caller.of("LAW 1, then", lawRace(1, "boat at 4 needs 9; boat at 3 needs 1; boat at 3 needs 1;",
                "watcher eyes 2 sees 1 to 1 on 1; watcher eyes 1 sees 0 to 2 on 0;"));
        then.due("place 0..2 0 = 4 3 3", "place 0..2 1 = 4 5 3", "on 1 0..1 = 0 1", "place 1 2 = 8");
        Caller several = Caller.of("LAW 1, the first of several", lawRace(1, "boat at 2 needs 1;".repeat(5),
                "watcher eyes 1 sees 0 to 4 on 4; watcher eyes 1 sees 1 to 4 on 4; watcher eyes 1 sees 0 to 3 on 3;"
                + "watcher eyes 1 sees 1 to 3 on 3; watcher eyes 1 sees 2 to 3 on 3;") + "show 9 at 0;");
        several.due("on 0..4 1 = 0 1 0 1 2");
    }

    /** II: "2: to the one that is least far, the first of several". */
    private static void lawLeastFar() {
        Caller x = Caller.of("LAW 2", lawRace(2,
                "boat at 1 needs 9; boat at 4 needs 9; boat at 3 needs 9; boat at 3 needs 9;"
                + "boat at 2 needs 9;", "watcher eyes 1 sees 1 to 3 on 1; watcher eyes 1 sees 2 to 4 on 3;"
                + "watcher eyes 1 sees 3 to 3 on 3; watcher eyes 1 sees 0 to 4 on 4;"
                + "watcher eyes 1 sees 1 to 2 on 1;"));
        x.due("on 0 0..1 = 1 2", "on 1 0..1 = 3 4", "on 2 0..3 = 3", "on 3 0..1 = 4 0", "on 4 0..1 = 1 2");
        Caller then = Caller.of("LAW 2, then", lawRace(2, "boat at 4 needs 9; boat at 3 needs 1; boat at 4 needs 1;",
                "watcher eyes 2 sees 1 to 1 on 1; watcher eyes 1 sees 0 to 2 on 1;"));
        then.due("place 0..2 1 = 4 6 4", "on 1 0..1 = 1 0");
        Caller several = Caller.of("LAW 2, the first of several", lawRace(2, "boat at 2 needs 1;".repeat(5),
                "watcher eyes 1 sees 0 to 4 on 4; watcher eyes 1 sees 1 to 4 on 4; watcher eyes 1 sees 0 to 3 on 3;"
                + "watcher eyes 1 sees 1 to 3 on 3; watcher eyes 1 sees 2 to 3 on 3;") + "show 9 at 0;");
        several.due("on 0..4 1 = 0 1 0 1 2");
    }

    /** II: "3: to the next one she sees (from the last, or one that she does not see, to the first)". */
    private static void lawNext() {
        Caller x = Caller.of("LAW 3", lawRace(3, "boat at 2 needs 1;".repeat(5),
                "watcher eyes 1 sees 0 to 4 on 3; watcher eyes 1 sees 1 to 3 on 2; watcher eyes 1 sees 4 to 4 on 4;"
                + "watcher eyes 1 sees 0 to 0 on 0; watcher eyes 1 sees 2 to 3 on 3;"));
        x.due("on 0 0..3 = 3 4 0 1", "on 1 0..3 = 2 3 1 2", "on 2 0..3 = 4", "on 3 0..3 = 0", "on 4 0..3 = 3 2 3 2");
        x.due("look 1 0 0 = 2", "on 1 0..3 = 0 1 2 3", "look 1 4 1 = 1", "on 1 0..3 = 0 4 1 2");
        x.due("look 2 0 0 = 4", "on 2 0..3 = 0 4 4 4", "look 3 4 0 = 0", "on 3 0..3 = 4 0 0 0");
        x.due("look 4 1 2 = 3", "on 4 0..3 = 3 2 1 2", "look 4 4 2 = 1", "on 4 0..3 = 3 2 4 2");
    }

    /** IV: "at an earlier STEP than all others, or at one with some, and its number is the least of these". */
    private static void earliestWins() {
        String race = "race steps 2 law 0 goal 2 odds 0;";
        String eyes = "watcher eyes 1 sees 0 to 0 on 0; watcher eyes 2 sees 1 to 1 on 1;";
        Caller.of("the earlier one wins", race + "boat at 0 needs 1; boat at 0 needs 1;" + eyes)
                .due("wins = 1", "home 0..1 = 2 1", "arrived 0..2 = 0 2 3");
        Caller.of("at one STEP", race + "boat at 1 needs 1; boat at 0 needs 1;" + eyes).due("wins = 0",
                "home 0..1 = 1");
        Caller.of("at STEP 0", race + "boat at 1 needs 1; boat at 2 needs 1;" + eyes)
                .due("wins = 1", "home 0..1 = 1 0", "arrived 0..2 = 2 3 3");
        Caller.of("some at STEP 0", race + "boat at 1 needs 1;" + "boat at 2 needs 1;".repeat(4))
                .due("wins = 1", "arrived 0 = 30");
        Caller.of("at the last STEP", race + "boat at 0 needs 1; boat at 0 needs 9;" + eyes)
                .due("wins = 0", "home 0..1 = 2 -1", "arrived 1..2 = 0 1");
        Caller.of("none wins", race + "boat at 0 needs 2; boat at 0 needs 9;" + eyes).due("wins = -1",
                "home 0..1 = -1");
    }

    /** 23: "How often the BOAT that leads() is another one than at the STEP ahead." 16: "0 to the last". */
    private static void changesOfTheLeader() {
        Caller x = Caller.of("changes", "race steps 4 law 3 goal 60 odds 0; boat at 0 needs 1; boat at 0 needs 1;"
                + "watcher eyes 2 sees 0 to 1 on 1;");
        x.due("place 0 0..4 = 0 0 2 2 4", "place 1 0..4 = 0 2 2 4 4", "leads 0..4 = 0 1 0 1 0", "changes = 4",
                "front 0..1 = 3 2", "lags 0..4 = 0 0 0 0 0", "even 0 1 = 3");
        Caller y = Caller.of("changes at the last STEP", "race steps 2 law 0 goal 60 odds 0; boat at 2 needs 1;"
                + "boat at 0 needs 1; watcher eyes 2 sees 1 to 1 on 1;");
        y.due("leads 0..2 = 0 0 1", "changes = 1", "front 0..1 = 2 1", "lags 0..2 = 1 0 0");
        Caller z = Caller.of("never changes", "race steps 20 law 0 goal 60 odds 0; boat at 2 needs 1;");
        z.due("changes = 0", "front 0 = 21", "lags 0..20 = 0", "behind 0 20 = 0", "order 0..1 20 = 0 -2");
    }

    /** 19: "The first STEP at which some BOAT is. NONE: at none". */
    private static void drops() {
        String race = "race steps 3 law 0 goal 60 odds 0; boat at 0 needs 1; watcher eyes 1 sees 0 to 0 on 0;";
        Caller.of("drops at 0", race + "show 1 at 0;").due("drops = 0", "calm 0 = 1");
        Caller.of("drops at the last that counts", race + "show 1 at 2;").due("drops = 2", "calm 0 = 4");
        Caller.of("drops at two", race + "show 1 at 2; show 1 at 1;").due("drops = 1", "calm 0 = 6");
        Caller.of("drops at none", race + "show 1 at 3;").due("drops = -1", "calm 0 = 0");
        Caller.of("drops of the last boat", race + "boat at 60 needs 1;".replace("60", "30")).due("drops = 0",
                "calm 1 = 7");
    }

    /** 35: "The first STEP at which a BOAT is farther than another one, and was not at the STEP ahead." */
    private static void passes() {
        Caller x = Caller.of("passes", "race steps 4 law 3 goal 60 odds 0; boat at 0 needs 1; boat at 0 needs 1;"
                + "boat at 1 needs 9; watcher eyes 2 sees 0 to 1 on 1;");
        // 0 0 2 2 4, 0 2 2 4 4, 1 1 1 1 1
        x.due("passes 1 0 = 1", "passes 0 1 = -1", "passes 0 2 = 2", "passes 1 2 = 1", "passes 2 0 = -1",
                "passes 2 1 = -1", "passes 1 1 = -1");
        Caller y = Caller.of("passes again", "race steps 4 law 3 goal 60 odds 0; boat at 1 needs 1; boat at 0 needs 1;"
                + "watcher eyes 2 sees 0 to 1 on 1;");
        // 1 1 3 3 5, 0 2 2 4 4
        y.due("passes 0 1 = 2", "passes 1 0 = 1");
        Caller ahead = Caller.of("farther from STEP 0 on", "race steps 2 law 0 goal 60 odds 0; boat at 2 needs 1;"
                + "boat at 1 needs 1; watcher eyes 2 sees 0 to 0 on 0; watcher eyes 1 sees 1 to 1 on 1;");
        ahead.due("place 0 0..2 = 2 4 6", "place 1 0..2 = 1 2 3", "passes 0..1 0 = -1", "passes 0..1 1 = -1");
        Caller z = Caller.of("passes at the last STEP", "race steps 2 law 0 goal 60 odds 0; boat at 0 needs 1;"
                + "boat at 1 needs 1; watcher eyes 1 sees 0 to 0 on 0;");
        z.due("place 0 0..2 = 0 1 2", "passes 0 1 = 2", "passes 1 0 = -1");
        Caller late = Caller.of("passes at the last of twenty STEPS", "race steps 20 law 0 goal 60 odds 0;"
                + "boat at 0 needs 1; boat at 19 needs 9; watcher eyes 1 sees 0 to 0 on 0;");
        late.due("passes 0 1 = 20", "passes 1 0 = -1", "even 0 1 = 1", "leads 18..20 = 1 0 0", "changes = 1");
    }

    /** 34: "two BOATS (or one twice)"; 33: "of one place the less by number". */
    private static void evens() {
        Caller x = Caller.of("even", "race steps 20 law 0 goal 60 odds 0;" + "boat at 4 needs 1;".repeat(5));
        x.due("even 0 4 = 21", "even 4 0 = 21", "even 3 3 = 21", "order 0..5 0 = 0 1 2 3 4 -2",
                "order 0..5 20 = 0 1 2 3 4 -2", "behind 0..4 20 = 0", "leads 20 = 0", "lags 20 = 0",
                        "front 0..4 = 21 0 0 0 0");
        Caller y = Caller.of("even at the last STEP alone", "race steps 1 law 0 goal 60 odds 0; boat at 0 needs 1;"
                + "boat at 1 needs 1; watcher eyes 1 sees 0 to 0 on 0;");
        y.due("even 0 1 = 1", "order 0..1 0 = 1 0", "order 0..1 1 = 0 1");
    }

    /** 4: "in place of another": nothing of a longer RACE is left in a shorter one. */
    private static void shortBehindLong() {
        String text = "race steps 2 law 0 goal 60 odds 0; boat at 0 needs 9; boat at 1 needs 1;"
                + "watcher eyes 1 sees 0 to 1 on 0;";
        Caller x = Caller.of("short behind long", FULL.replace("law 0", "law 3"));
        x.due("sneeze 0 2 = 1", "look 1 4 2 = 3");
        x.ask("total 0");
        x.ask("ways 0");
        x.feed(text);
        x.due("race = 4", "total 0..1 = 2 0", "calm 0..1 = 3", "front 0..1 = 0 3", "even 0 1 = 0", "wavers 0 = 0",
                "on 0 0..3 = 0 0 0 -2", "far 0..1 = 0 3", "awake 0..2 = 1 1 -2", "arrived 2 = 0", "gaze 0 = 0");
        Check.holds("short behind long is as if alone",
                x.state().equals(Caller.of("short alone", text).state()));
    }

    /** 29: "at most STEPS (0 to the last), the first of several"; 24: "at how many STEPS". */
    private static void gazes() {
        Caller each = Caller.of("gaze, one STEP each", "race steps 1 law 3 goal 60 odds 0; boat at 0 needs 1;"
                + "boat at 0 needs 1; boat at 0 needs 1; watcher eyes 1 sees 0 to 2 on 1;");
        each.due("on 0 0..1 = 1 2", "gaze 0 = 1", "look 0 0 1 = 2", "gaze 0 = 0");
        String race = "race steps 3 law 0 goal 60 odds 0;" + "boat at 0 needs 1;".repeat(3)
                + "watcher eyes 1 sees 0 to 2 on 2;";
        Caller x = Caller.of("gaze", race);
        x.due("gaze 0 = 2", "look 0 1 3 = 2", "gaze 0 = 2", "wavers 0 = 1", "look 0 1 2 = 2", "gaze 0 = 1",
                "wavers 0 = 1");
        x.due("look 0 0 0 = 2", "on 0 0..3 = 0 0 1 1", "gaze 0 = 0", "wavers 0 = 1", "look 0 2 1 = 0", "gaze 0 = 1",
                "wavers 0 = 2", "on 0 0..3 = 0 2 1 1", "look 0 0 3 = 1", "gaze 0 = 0", "wavers 0 = 3");
    }

    /** 26: "How many EYES it would need more .. to have as many as it needs (0: none)." */
    private static void lacks() {
        String race = "race steps 1 law 0 goal 60 odds 0; boat at 0 needs #; watcher eyes 4 sees 0 to 0 on 0;";
        Caller.of("lacks none", race.replace("#", "3")).due("lacks 0 0..1 = 0 -2");
        Caller.of("lacks none", race.replace("#", "4")).due("lacks 0 0..1 = 0 -2");
        Caller.of("lacks one", race.replace("#", "5")).due("lacks 0 0..1 = 1 -2");
        Caller.of("lacks at goal, too", race.replace("#", "9").replace("goal 60", "goal 1").replace("at 0", "at 1"))
                .due("lacks 0 0 = 5", "calm 0 = 0");
    }

    /** 30: "WATCHERS who LOOK at the BOAT told for them at all STEPS": at STEP 0 and the last, too. */
    private static void faithfuls() {
        String race = "race steps 2 law 0 goal 60 odds 0;" + "boat at 0 needs 1;".repeat(2)
                + "watcher eyes 1 sees 0 to 1 on 0;".repeat(2);
        Caller x = Caller.of("faithful", race);
        x.due("faithful = 3", "look 0 1 2 = 0", "faithful = 2", "undo = 0", "look 1 1 0 = 0", "look 1 0 1 = 1",
                "faithful = 1",
                "look 1 0 0 = 1", "faithful = 3", "unseen 0..2 = 2");
    }
}
