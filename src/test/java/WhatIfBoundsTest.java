/** The bounds of what would be, were it told otherwise (terms V, promises 38 to 52), by hand. */
public final class WhatIfBoundsTest {
    private static final String RACE = "race steps 2 law 0 goal 4 odds 0;";
    private static final String ON_FIRST = "watcher eyes 6 sees 0 to 0 on 0;";
    private static final String ON_SECOND = "watcher eyes 6 sees 1 to 1 on 1;";

    private WhatIfBoundsTest() {
    }

    public static void main(String[] args) {
        clear();
        key();
        handicap();
        start();
        by();
        looksAreOfThoseSeen();
        looksAtMost();
        looksAskedFirst();
        looksActsAsNow();
        plan();
        fewest();
        soonest();
        far();
        withoutWatchers();
        spoils();
        lure();
        cover();
        covers();
        actsAsNow();
        Check.finish("WhatIfBoundsTest");
    }

    /** 38: "The BOAT that WINS, if a SHOW were not. NONE: none". */
    private static void clear() {
        Caller x = Caller.of("clear", "race steps 1 law 0 goal 2 odds 0; boat at 0 needs 3; boat at 0 needs 3;"
                + ON_FIRST
                + "watcher eyes 7 sees 1 to 1 on 1; show 6 at 0; show 5 at 0;");
        x.due("wins = 1", "clear 0 = 0", "clear 1 = 1", "clear 2 = -2", "clear -1 = -2", "wins = 1", "show 0 0 = 6");
        Caller twice = Caller.of("clear of one of two alike", "race steps 1 law 0 goal 2 odds 0; boat at 0 needs 3;"
                + ON_FIRST
                + "show 6 at 0;".repeat(5));
        twice.due("wins = -1", "clear 0..4 = -1", "clear 5 = -2");
        Caller none = Caller.of("clear without shows", RACE + "boat at 4 needs 1;");
        none.due("clear 0 = -2", "wins = 0");
        Caller.of("clear of a show behind the last STEP", RACE + "boat at 4 needs 1; show 9 at 19;").due("clear 0 = 0");
    }

    /** 39: "(she sneezes at all STEPS) .. the first of several. NONE: none, none WINS". */
    private static void key() {
        String race = RACE + "boat at 0 needs 3;";
        Caller.of("key, all", race + ON_FIRST).due("wins = 0", "key = 0");
        Caller.of("key, the first of several", race
                + "watcher eyes 1 sees 0 to 0 on 0; watcher eyes 3 sees 0 to 0 on 0;"
                + "watcher eyes 3 sees 0 to 0 on 0;").due("wins = 0", "key = 1");
        Caller.of("key, the last of five", race + "watcher eyes 1 sees 0 to 0 on 0;".repeat(4) + ON_FIRST)
                .due("wins = 0", "key = 4");
        Caller.of("key, another wins", race + "boat at 3 needs 6;" + ON_FIRST + "watcher eyes 1 sees 1 to 1 on 1;"
                + ON_SECOND).due("wins = 1", "key = 2");
        Caller.of("key, none", race + ON_FIRST + ON_FIRST).due("wins = 0", "key = -1");
        Caller.of("key, at goal at once", RACE + "boat at 4 needs 9;" + ON_FIRST).due("wins = 0", "key = -1");
        Caller.of("key, none wins", race).due("wins = -1", "key = -1");
        Caller.of("key, none wins but without her", "race steps 1 law 1 goal 2 odds 0; boat at 0 needs 9;" + ON_FIRST)
                .due("wins = -1", "key = -1");
        // At STEP 1 she is needed, at STEP 0 not: she sneezes at all.
        Caller.of("key, at all STEPS",
                "race steps 2 law 0 goal 2 odds 0; boat at 0 needs 3; watcher eyes 3 sees 0 to 0 on 0;")
                .due("wins = 0", "key = 0");
    }

    /** 40: "The least needs (1 .. 9) .. by which it does not WIN. NONE: by none". */
    private static void handicap() {
        for (int eyes = 1; eyes <= 9; eyes++) {
            Caller x = Caller.of("handicap", "race steps 1 law 0 goal 1 odds 0; boat at 0 needs 9; watcher eyes " + eyes
                    + " sees 0 to 0 on 0;");
            x.due("handicap 0 = " + (eyes < 9 ? eyes + 1 : -1), "boat 0 1 = 9");
        }
        Caller.of("handicap by the least", "race steps 1 law 0 goal 4 odds 0; boat at 0 needs 9;" + ON_FIRST)
                .due("handicap 0 = 1");
        Caller.of("handicap by none", RACE + "boat at 4 needs 9; boat at 30 needs 1;")
                .due("handicap 0 = -1", "handicap 1 = 1");
        Caller.of("handicap, not as told", "race steps 1 law 0 goal 3 odds 0; boat at 0 needs 9;" + ON_FIRST)
                .due("wins = -1", "handicap 0 = 3");
    }

    /** 41: "The least start (0 .. 30) .. by which it WINS. NONE: by none". */
    private static void start() {
        for (int goal = 29; goal <= 34; goal++) {
            Caller x = Caller.of("start", "race steps 1 law 0 goal " + goal + " odds 0; boat at 30 needs 9;");
            x.due("start 0 = " + (goal <= 30 ? goal : -1), "boat 0 0 = 30");
            Caller y = Caller.of("start and pace", "race steps 1 law 0 goal " + goal + " odds 0; boat at 0 needs 2;"
                    + ON_FIRST);
            y.due("start 0 = " + (goal <= 33 ? goal - 3 : -1), "boat 0 0 = 0");
        }
        Caller.of("start of 0, more than enough", "race steps 1 law 0 goal 1 odds 0; boat at 30 needs 2;" + ON_FIRST)
                .due("start 0 = 0");
        Caller.of("start of 0", "race steps 1 law 0 goal 1 odds 0; boat at 30 needs 6;" + ON_FIRST).due("start 0 = 0");
        Caller x = Caller.of("start against others", RACE + "boat at 3 needs 6; boat at 3 needs 6;" + ON_FIRST
                + ON_SECOND);
        x.due("wins = 0", "start 0 = 3", "start 1 = 4");
        Caller.of("start against one at goal", RACE + "boat at 4 needs 6; boat at 3 needs 6;").due("start 1 = -1",
                "start 0 = 4");
    }

    /** 42: "by a LAW (0 .. 3) in place of the one told. NONE: none". */
    private static void by() {
        String race = "race steps 2 law # goal 3 odds 0; boat at 0 needs 6; boat at 1 needs 6; boat at 2 needs 6;"
                + "watcher eyes 6 sees 0 to 2 on 1; watcher eyes 6 sees 0 to 2 on 0; watcher eyes 6 sees 0 to 1 on 0;";
        for (int law = 0; law < 4; law++) {
            Caller x = Caller.of("by, told " + law, race.replace("#", String.valueOf(law)));
            // All are at 2 at STEP 1, so who is looked at then wins: by LAW 3 it is not BOAT 0.
            x.due("place 0..2 1 = 2", "by 0 = 0", "by 1..2 = 0", "by 3 = 1", "by 4 = -2", "by -1 = -2",
                    "count 1 = " + law);
        }
        String none = "race steps 1 law # goal 3 odds 0; boat at 0 needs 6;";
        Caller.of("by, none", none.replace("#", "3")).due("by 0..3 = -1");
    }

    /** V: "each one that she sees": the first, the last, and no other. */
    private static void looksAreOfThoseSeen() {
        String boats = "race steps 1 law 0 goal 1 odds 0;" + "boat at 0 needs 1;".repeat(5);
        for (int first = 0; first < 5; first++) {
            for (int last = first; last < 5; last++) {
                Caller x = Caller.of("looks from " + first + " to " + last, boats + "watcher eyes 1 sees " + first
                        + " to "
                        + last + " on " + last + ";");
                int can = (2 << last) - (1 << first);
                x.due("can = " + can);
                for (int b = 0; b < 5; b++) {
                    boolean seen = first <= b && b <= last;
                    x.due("ways " + b + " = " + (seen ? 1 : 0), "plan " + b + " 0 = " + (seen ? b : -1),
                            "fewest " + b + " = " + (seen ? b == last ? 0 : 1 : -1), "soonest " + b + " = "
                            + (seen ? 1 : -1),
                            "far " + b + " = " + (seen ? 1 : 0));
                }
            }
        }
    }

    /** 43: five who see five: 3125 LOOKS. */
    private static void looksAtMost() {
        Caller x = Caller.of("looks at most", "race steps 20 law 0 goal 60 odds 0;" + "boat at 0 needs 3;".repeat(5)
                + "watcher eyes 9 sees 0 to 4 on 4;".repeat(5));
        // BOAT b wins if it is the first that is looked at: (5 - b)^5 - (4 - b)^5.
        x.due("ways 0..4 = 2101 781 211 31 1", "can = 31", "fewest 0..4 = 1 1 1 1 0", "soonest 0..4 = 20",
                "far 0..4 = 60");
        x.due("plan 0 0..4 = 0", "plan 1 0..4 = 1", "plan 4 0..4 = 4", "plan 5 0 = -2", "plan 0 5 = -2", "wins = 4");
        Caller one = Caller.of("looks at least", "race steps 1 law 0 goal 1 odds 0; boat at 0 needs 1;"
                + "watcher eyes 1 sees 0 to 0 on 0;");
        one.due("ways 0..1 = 1 -2", "can = 1", "plan 0 0..1 = 0 -2", "fewest 0 = 0", "soonest 0 = 1", "far 0 = 1");
    }

    /** V: asked first of all, and first behind each change, every one of 43 to 48 tells of the RACE as it is now. */
    private static void looksAskedFirst() {
        String text = "race steps 1 law 0 goal 1 odds 0; boat at 0 needs 1; boat at 0 needs 2;"
                + "watcher eyes 2 sees 0 to 1 on 1;";
        String[] calls = {"ways 0 = ", "plan 0 0 = ", "fewest 0 = ", "soonest 0 = ", "far 0 = ", "can = "};
        int[] asTold = {1, 0, 1, 1, 1, 3};
        int[] withAct = {0, -1, -1, -1, 0, 2};
        for (int i = 0; i < calls.length; i++) {
            Caller x = Caller.of("asked first", text);
            x.due(calls[i] + asTold[i], "look 0 1 0 = 1", calls[i] + withAct[i], "image 0 = 0", "undo = 0",
                    calls[i] + asTold[i], "back 0 = 0", calls[i] + withAct[i], "anew = 1", calls[i] + asTold[i],
                    "sneeze 0 0 = 1", calls[i] + (i == 5 ? 0 : withAct[i]));
            x.feed(text);
            x.due("race = 4", calls[i] + asTold[i], "rate 0 3 = 1", calls[i] + withAct[i]);
        }
    }

    /** V: "(acts as now)". */
    private static void looksActsAsNow() {
        Caller x = Caller.of("looks and acts", "race steps 1 law 0 goal 1 odds 0; boat at 0 needs 1; boat at 0 needs 1;"
                + "watcher eyes 1 sees 0 to 1 on 0;");
        x.due("ways 0..1 = 1", "look 0 1 0 = 0", "ways 0..1 = 0 2", "plan 1 0 = 0", "fewest 1 = 0",
                "soonest 0..1 = -1 1",
                "far 0..1 = 0 1", "can = 2", "sneeze 0 0 = 1", "can = 0", "ways 1 = 0", "far 1 = 0", "undo = 1",
                "can = 2",
                "anew = 1", "can = 3", "rate 1 2 = 1", "can = 1", "rate 1 1 = 2", "can = 3");
    }

    /** 44: "by the first of these (the least row). NONE: there are none". */
    private static void plan() {
        // BOAT 0 needs two of three on it, BOAT 1 is on its way where nobody is needed.
        String race = "race steps 1 law 0 goal 1 odds 0; boat at 0 needs 2; boat at 0 needs 2; boat at 0 needs 9;"
                + "watcher eyes 1 sees 0 to 2 on 2; watcher eyes 1 sees 1 to 2 on 1; watcher eyes 1 sees 0 to 1 on 0;";
        Caller x = Caller.of("plan", race);
        // BOAT 0: 0 1 0, 0 2 0. BOAT 1: 0 1 1, 1 1 0, 1 1 1, 1 2 1, 2 1 1.
        x.due("ways 0..2 = 2 5 0", "plan 0 0..2 = 0 1 0", "plan 1 0..2 = 0 1 1", "plan 2 0..2 = -1", "plan 3 0 = -2",
                "plan 0 3 = -2", "plan 2 3 = -2", "can = 3", "fewest 0..2 = 1 1 -1", "soonest 0..2 = 1 1 -1");
    }

    /** 45: "The fewest WATCHERS who LOOK at another BOAT than told by any of these." */
    private static void fewest() {
        for (int needs = 1; needs <= 6; needs++) {
            Caller x = Caller.of("fewest of " + needs, "race steps 1 law 0 goal 1 odds 0; boat at 0 needs " + needs
                    + "; boat at 0 needs 9;" + "watcher eyes 1 sees 0 to 1 on 1;".repeat(5));
            x.due("fewest 0 = " + (needs <= 5 ? needs : -1), "fewest 1 = -1");
        }
        Caller.of("fewest, as told", RACE + "boat at 0 needs 3; boat at 0 needs 3;" + ON_FIRST + ON_SECOND)
                .due("fewest 0..1 = 0 -1");
        Caller five = Caller.of("none of five", RACE.replace("goal 4", "goal 60") + "boat at 0 needs 1;".repeat(5)
                + "watcher eyes 1 sees 0 to 4 on 0;".repeat(5));
        for (int b = 0; b < 5; b++) {
            five.due("plan " + b + " 0..4 = -1", "fewest " + b + " = -1", "ways " + b + " = 0",
                    "soonest " + b + " = -1");
        }
    }

    /** 46: "The earliest STEP at which a BOAT is at goal by any LOOKS" (also where it does not WIN). */
    private static void soonest() {
        Caller x = Caller.of("soonest",
                "race steps 3 law 0 goal 3 odds 0; boat at 3 needs 1; boat at 0 needs 1; boat at 0 needs 2;"
                + "boat at 0 needs 9; watcher eyes 2 sees 0 to 3 on 3;");
        x.due("soonest 0..4 = 0 2 3 -1 -2", "ways 0..3 = 4 0 0 0", "fewest 0..3 = 0 -1 -1 -1", "can = 1");
        Caller last = Caller.of("soonest at the last of twenty",
                "race steps 20 law 0 goal 20 odds 0; boat at 0 needs 1;"
                + "watcher eyes 1 sees 0 to 0 on 0;");
        last.due("soonest 0 = 20", "far 0 = 20");
        // By the first LOOKS BOAT 1 is at goal one STEP later than by the others.
        Caller later = Caller.of("soonest by later LOOKS", "race steps 3 law 3 goal 1 odds 0; boat at 0 needs 1;"
                + "boat at 0 needs 1; watcher eyes 1 sees 0 to 1 on 0;");
        later.due("home 0..1 = 1 2", "soonest 0..1 = 1 1", "ways 0..1 = 1 1", "plan 1 0 = 1");
    }

    /** 47: "How far a BOAT is at the last STEP at most, by any LOOKS." */
    private static void far() {
        Caller x = Caller.of("far",
                "race steps 2 law 0 goal 60 odds 0; boat at 0 needs 1; boat at 30 needs 2; boat at 7 needs 9;"
                + "watcher eyes 2 sees 0 to 2 on 2;");
        x.due("far 0..3 = 4 32 7 -2", "far -1 = -2", "place 0..2 2 = 0 30 7");
        Caller.of("far, goal at most", "race steps 2 law 0 goal 5 odds 0; boat at 0 needs 1; boat at 30 needs 1;"
                + "watcher eyes 9 sees 0 to 1 on 1;").due("far 0..1 = 5");
    }

    /** V without WATCHERS: there is one row, and nothing in it. */
    private static void withoutWatchers() {
        Caller x = Caller.of("no watchers", RACE + "boat at 3 needs 1; boat at 4 needs 1;");
        x.due("ways 0..1 = 0 1", "fewest 0..1 = -1 0", "soonest 0..1 = -1 0", "far 0..1 = 3 4", "can = 2",
                "plan 1 0 = -2",
                "cover = -1", "covers = -1", "key = -1", "handicap 1 = -1", "handicap 0 = 1", "start 0..1 = 4",
                "by 0..3 = 1",
                "spoils = 0", "lure 0..1 = -1");
        Caller none = Caller.of("no boats", RACE);
        none.due("can = 0", "key = -1", "by 0..3 = -1", "spoils = 0", "lure 0..2 = -1 -1 -2", "cover = 0", "covers = 0",
                "ways 0 = -2", "far 0 = -2", "clear 0 = -2");
    }

    /** 49: "STEPS (ahead of the last) at which a SHOW of lure 9 besides keeps the BOAT that WINS now from it". */
    private static void spoils() {
        String race = "race steps 20 law 0 goal 20 odds 0; boat at # needs 9; watcher eyes 9 sees 0 to 0 on 0;";
        Caller all = Caller.of("spoils all", race.replace("#", "0"));
        all.due("wins = 0", "spoils = 1048575", "lure 0 = 9", "lure 19 = 9", "lure 20 = -2", "lure -1 = -2",
                "count 6 = 0");
        Caller none = Caller.of("spoils none", race.replace("#", "1"));
        none.due("wins = 0", "spoils = 0", "lure 0..19 = -1", "lure 20 = -2");
        Caller lost = Caller.of("none wins", race.replace("goal 20", "goal 21").replace("#", "0"));
        lost.due("wins = -1", "spoils = 0",
                "lure 0..20 = -1 -1 -1 -1 -1 -1 -1 -1 -1 -1 -1 -1 -1 -1 -1 -1 -1 -1 -1 -1 -2");
        Caller other = Caller.of("both are late",
                "race steps 2 law 0 goal 2 odds 0; boat at 0 needs 1; boat at 1 needs 1;"
                + "watcher eyes 2 sees 0 to 0 on 0; watcher eyes 1 sees 1 to 1 on 1;");
        // Both are at goal at STEP 1, with a SHOW at 0 both at STEP 2; with one of lure 1 BOAT 1 alone is late.
        other.due("wins = 0", "spoils = 0", "lure 0..1 = -1");
        Caller first = Caller.of("late, but it wins",
                "race steps 2 law 0 goal 3 odds 0; boat at 0 needs 9; boat at 2 needs 1;"
                + "watcher eyes 9 sees 1 to 1 on 1;");
        first.due("wins = 1", "spoils = 0", "home 1 = 1");
        Caller far = Caller.of("STEPS beyond goal", "race steps 5 law 0 goal 2 odds 0; boat at 0 needs 9;"
                + "watcher eyes 9 sees 0 to 0 on 0; show 9 at 0; show 9 at 1; show 9 at 2;");
        far.due("home 0 = 5", "spoils = 24", "lure 0..5 = -1 -1 -1 9 9 -2");
        Caller late = Caller.of("one STEP of three",
                "race steps 2 law 0 goal 3 odds 0; boat at 2 needs 1; boat at 1 needs 1;"
                + "watcher eyes 3 sees 1 to 1 on 1; watcher eyes 1 sees 0 to 0 on 0; show 1 at 0;");
        late.due("wins = 1", "spoils = 1", "lure 0 = 3", "lure 1 = -1");
    }

    /** 50: "The least lure (1 .. 9)". */
    private static void lure() {
        for (int eyes = 1; eyes <= 9; eyes++) {
            Caller x = Caller.of("lure of " + eyes,
                    "race steps 1 law 0 goal 1 odds 0; boat at 0 needs 1; watcher eyes " + eyes
                    + " sees 0 to 0 on 0;");
            x.due("lure 0 = " + eyes, "lure 1 = -2", "spoils = 1");
        }
        Caller at = Caller.of("lure, a show besides", "race steps 1 law 0 goal 1 odds 0; boat at 0 needs 3;"
                + "watcher eyes 5 sees 0 to 0 on 0; watcher eyes 3 sees 0 to 0 on 0; show 4 at 0;");
        at.due("wins = 0", "lure 0 = 5", "show 1 0 = -2", "awake 0 = 1");
    }

    /** 51: "the fewest WATCHERS of whom each BOAT is seen by one at least. NONE: not by all". */
    private static void cover() {
        String boats = RACE + "boat at 0 needs 1;".repeat(5);
        StringBuilder one = new StringBuilder(boats);
        for (int w = 0; w < 5; w++) {
            one.append("watcher eyes 1 sees " + w + " to " + w + " on " + w + ";");
            Caller.of("cover of " + (w + 1), one.toString()).due("cover = " + (w < 4 ? -1 : 5), "covers = "
                    + (w < 4 ? -1 : 31));
        }
        Caller.of("cover by one", boats + "watcher eyes 1 sees 0 to 3 on 0; watcher eyes 1 sees 1 to 4 on 1;"
                + "watcher eyes 1 sees 0 to 4 on 0;").due("cover = 1", "covers = 4");
        Caller.of("cover not by all: the last", boats + "watcher eyes 1 sees 0 to 3 on 0;".repeat(5))
                .due("cover = -1", "covers = -1");
        Caller.of("cover not by all: the first", boats + "watcher eyes 1 sees 1 to 4 on 1;".repeat(5))
                .due("cover = -1", "covers = -1");
        Caller.of("cover of no boats", RACE).due("cover = 0", "covers = 0");
    }

    /** 52: "the least set of so few". */
    private static void covers() {
        String boats = RACE + "boat at 0 needs 1;".repeat(3);
        String left = "watcher eyes 1 sees 0 to 1 on 0;";
        String right = "watcher eyes 1 sees 1 to 2 on 1;";
        Caller.of("covers: fewest ahead of least", boats + left + "watcher eyes 1 sees 2 to 2 on 2;"
                + "watcher eyes 1 sees 0 to 0 on 0; watcher eyes 1 sees 0 to 2 on 0;").due("cover = 1", "covers = 8");
        Caller.of("covers: the least of several", boats + left + left + right + right).due("cover = 2", "covers = 5");
        Caller.of("covers: the least as a number", boats + right + left + left + right).due("cover = 2", "covers = 3");
        Caller.of("covers: the last two", boats + "watcher eyes 1 sees 1 to 1 on 1;".repeat(3) + left + right)
                .due("cover = 2", "covers = 24");
    }

    /** All these are asked with acts as they are, and change none. */
    private static void actsAsNow() {
        Caller x = Caller.of("what if, with acts",
                "race steps 2 law 0 goal 2 odds 0; boat at 0 needs 1; boat at 0 needs 1;"
                + "watcher eyes 1 sees 0 to 1 on 0; watcher eyes 1 sees 0 to 1 on 1; show 1 at 1;");
        x.due("wins = -1", "clear 0 = 0", "by 0..3 = -1", "start 0..1 = 1", "handicap 0 = 1");
        x.due("look 0 1 0 = 0", "wins = 1", "clear 0 = 1", "key = 0", "spoils = 1", "lure 0..1 = 1 -1", "start 0 = 2",
                "handicap 1 = 2", "by 3 = 1", "count 7 = 1");
        x.due("sneeze 1 0 = 1", "wins = -1", "clear 0 = 1", "key = -1", "spoils = 0", "handicap 1 = 1", "count 7 = 2",
                "start 1 = 1", "start 0 = 2", "undo = 1", "undo = 0", "wins = -1");
    }
}
