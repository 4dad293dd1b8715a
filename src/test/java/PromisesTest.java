/** Each promise by answers worked out by hand: ordinary ones, the edges, wrong ones. */
public final class PromisesTest {
    /*
     * places by STEP: BOAT 0: 0 2 2 4 6, BOAT 1: 1 3 5 6 6, BOAT 2: 0 0 0 0 0; at STEP 1 only
     * WATCHER 1 counts.
     */
    private static final String PLAIN =
            "race steps 4 law 0 goal 6 odds 3; boat at 0 needs 2; boat at 1 needs 3; boat at 0 needs 9;\n"
            + "watcher eyes 4 sees 0 to 2 on 0; watcher eyes 7 sees 0 to 1 on 1; watcher eyes 1 sees 2 to 2 on 2;\n"
            + "show 4 at 1;";
    private static final String BARE = "race steps 3 law 2 goal 5 odds 0;";
    private static final int[] FAR_OFF = {Integer.MIN_VALUE, -1, 5, 1000, Integer.MAX_VALUE};

    private PromisesTest() {
    }

    public static void main(String[] args) {
        newObject();
        tape();
        readRaces();
        faults();
        cutOff();
        told();
        places();
        looksAndEyes();
        leaders();
        becalmed();
        homesAndWins();
        counts();
        bits();
        orders();
        laws();
        whatIf();
        allLooks();
        shows();
        covers();
        seen();
        shares();
        games();
        chances();
        acts();
        drawn();
        rates();
        images();
        slots();
        bare();
        wrongOnes();
        Check.finish("PromisesTest");
    }

    private static void due(String what, long got, long want) {
        Check.due(what, got, want);
    }

    private static void newObject() {
        PennantLawn x = new PennantLawn();
        due("1: wins", x.wins(), -2);
        for (int what = 0; what <= 10; what++) {
            due("1: count " + what, x.count(what), 0);
        }
        due("1: fleet", x.fleet(0), -2);
        due("5: fault ahead of any", x.fault(0), 0);
        due("5: place ahead of any", x.fault(1), -1);
        due("72: back", x.back(2), -6);
        due("74: write", x.write(3, 0, 1), -6);
        due("66: anew", x.anew(), -2);
        due("65: undo", x.undo(), -2);
    }

    private static void tape() {
        PennantLawn x = new PennantLawn();
        for (int i = 1; i <= 30; i++) {
            due("2: feed", x.feed(0x20202020, 0x20202020, 0x20202020, 0x20202020, 0x20202020), 20 * i);
        }
        due("2: feed beyond", x.feed(0, 0, 0, 0, 0), -1);
        due("2: none came", x.count(9), 600);
        due("3: end beyond", x.end(601), -1);
        due("3: end below", x.end(-1), -1);
        due("3: nothing happened", x.count(9), 600);
        due("3: end all", x.end(600), 600);
        due("3: end", x.end(581), 581);
        due("2: feed too many", x.feed(0, 0, 0, 0, 0), -1);
        due("3: end 580", x.end(580), 580);
        due("2: feed last", x.feed(0, 0, 0, 0, 0), 600);
        due("3: end 0", x.end(0), 0);
        due("3: end 1 of 0", x.end(1), -1);
        due("2: the highest first", x.feed('r' << 24 | 'a' << 16 | 'c' << 8 | 'e',
                ' ' << 24 | 's' << 16 | 't' << 8 | 'e', 'p' << 24 | 's' << 16 | ' ' << 8 | '4',
                'l' << 24 | 'a' << 16 | 'w' << 8 | '0', 0x80FF0001), 20);
        due("2: a sign above 127", x.race(), -4);
        due("5: a sign that is none", x.fault(0), 1);
        due("5: its place", x.fault(1), 16);
        due("4: the TAPE is empty", x.count(9), 0);
    }

    private static void readRaces() {
        PennantLawn x = new PennantLawn();
        due("4: LINES", Check.race(x, PLAIN), 8);
        due("70: LINES", x.count(8), 8);
        due("4: the TAPE is empty", x.count(9), 0);
        due("5: no FAULT", x.fault(0), 0);
        due("5: no place", x.fault(1), -1);
        x.look(0, 1, 0);
        due("4: a FAULT", Check.race(x, "race steps 4"), -4);
        due("4: all else stays", x.count(8), 8);
        due("4: acts stay", x.count(7), 1);
        due("5: FAULT", x.fault(0), 1);
        due("5: of the end", x.fault(1), 12);
        due("4: in place of another", Check.race(x, BARE), 1);
        due("4: nothing done", x.count(7), 0);
        due("4: BOATS", x.count(4), 0);
        due("5: gone", x.fault(0), 0);
        due("4: blanks alone", Check.race(x, " \n "), 0);
        due("4: there is none", x.wins(), -2);
        for (int what = 0; what <= 9; what++) {
            due("4: there is none, count " + what, x.count(what), 0);
        }
        Check.race(x, PLAIN.replace("law 0", "law 3"));
        due("4: nothing told", x.race(), 0);
        for (int what = 0; what <= 9; what++) {
            due("4: nothing told, count " + what, x.count(what), 0);
        }
        due("4: close together", Check.race(x, "race\nsteps1law0goal1odds0;boat at0needs1;watcher eyes1sees0to0on0;"
                + "show1at0;"), 4);
        due("4: zeros ahead", Check.race(x, "race steps 0020 law 03 goal 060 odds 00000000000010;"), 1);
        due("4: as numbers", x.count(0), 20);
        due("70: LAW", x.count(1), 3);
        due("70: goal", x.count(2), 60);
        due("70: odds", x.count(3), 10);
        due("4: LINES in any order", Check.race(x, "race steps 1 law 0 goal 1 odds 0; show 9 at 19; boat at 30 needs 9;"
                + "watcher eyes 9 sees 0 to 0 on 0; boat at 0 needs 1; watcher eyes 1 sees 1 to 1 on 1;"), 6);
        due("8: SHOW behind the last STEP", x.show(0, 1), 19);
    }

    private static void fault(String text, int fault, int place) {
        PennantLawn x = Check.lawn(BARE);
        due("4: FAULT of " + text, Check.race(x, text), -4);
        due("5: FAULT of " + text, x.fault(0), fault);
        due("5: place in " + text, x.fault(1), place);
        due("5: another what", x.fault(2), -1);
        due("5: another what", x.fault(-1), -1);
        due("4: RACE stays", x.count(0), 3);
        due("4: TAPE is empty", x.count(9), 0);
    }

    private static void faults() {
        String race = "race steps 4 law 0 goal 6 odds 3;";
        String boat = "boat at 0 needs 2;";
        fault("boat at 0 needs 2;", 1, 0);
        fault(";", 1, 0);
        fault(" \n7", 1, 2);
        fault("race", 1, 4);
        fault("race  ", 1, 6);
        fault("races steps 4", 1, 0);
        fault("Race steps 4", 1, 0);
        fault("racez steps 4", 1, 0);
        fault("racea steps 4", 1, 0);
        fault("race\tsteps 4", 1, 4);
        fault("race steps four", 1, 11);
        fault("race steps 0 law 0", 2, 11);
        fault("race steps 21", 2, 11);
        fault("race steps 99999999999999999999999999;", 2, 11);
        fault("race steps 4294967297;", 2, 11);
        fault("race steps 4 law 4", 2, 17);
        fault("race steps 4 law 0 goal 0", 2, 24);
        fault("race steps 4 law 0 goal 61", 2, 24);
        fault("race steps 4 law 0 goal 6 odds 11", 2, 31);
        fault("race steps 4 law 0 goal 6 odds 3 boat", 1, 33);
        fault("race steps 4 law 0 goal 6 odds 3;;", 1, 33);
        fault(race + "race", 1, 33);
        fault(race + "boats at", 1, 33);
        fault(race + "boat needs 1", 1, 38);
        fault(race + "boat at 31 needs 1", 2, 41);
        fault(race + "boat at 30 needs 0", 2, 50);
        fault(race + "boat at 30 needs 10;", 2, 50);
        fault(race + "boat at -1", 1, 41);
        fault(race + "watcher eyes 1 sees 0 to", 2, 53);
        fault(race + "watcher eyes 0", 2, 46);
        fault(race + "watcher eyes 10", 2, 46);
        fault(race + boat + "watcher eyes 1 sees 1 to", 2, 71);
        fault(race + boat + "watcher eyes 1 sees 0 to 1", 2, 76);
        fault(race + boat + boat + "watcher eyes 1 sees 1 to 0 on 0;", 2, 94);
        fault(race + boat + boat + "watcher eyes 1 sees 1 to 1 on 0;", 2, 99);
        fault(race + boat + boat + "watcher eyes 1 sees 0 to 0 on 1;", 2, 99);
        fault(race + "show 0 at 1;", 2, 38);
        fault(race + "show 10 at 1;", 2, 38);
        fault(race + "show 9 at 20;", 2, 43);
        fault(race + "show 9 at 19.", 1, 45);
        fault(race + boat.repeat(5) + "boat 77", 3, 123);
        String watcher = "watcher eyes 1 sees 0 to 0 on 0;";
        fault(race + boat + watcher.repeat(5) + " watcher", 3, 212);
        String show = "show 9 at 19;";
        fault(race + show.repeat(5) + "\nshow 9 at 19;@", 3, 99);
        fault(race + show.repeat(5) + "@show 9 at 19;", 1, 98);
    }

    /** What end() cut off the TAPE is not read, though it was fed. */
    private static void cutOff() {
        PennantLawn x = new PennantLawn();
        String[] texts = {"race steps 12", "race steps 4 lawn", "race  "};
        int[] cuts = {12, 16, 5};
        for (int i = 0; i < texts.length; i++) {
            Check.tell(x, texts[i]);
            due("3: cut", x.end(cuts[i]), cuts[i]);
            due("3: cut", x.race(), -4);
            due("3: cut off", x.fault(0), 1);
            due("3: the end's place", x.fault(1), cuts[i]);
        }
    }

    private static void told() {
        PennantLawn x = Check.lawn(PLAIN);
        due("6: start", x.boat(1, 0), 1);
        due("6: needs", x.boat(1, 1), 3);
        due("6: no such", x.boat(3, 0), -2);
        due("6: no such what", x.boat(0, 2), -2);
        due("6: no such what", x.boat(0, -1), -2);
        due("7: eyes", x.watcher(1, 0), 7);
        due("7: first", x.watcher(2, 1), 2);
        due("7: last", x.watcher(1, 2), 1);
        due("7: on", x.watcher(1, 3), 1);
        due("7: no such", x.watcher(3, 0), -2);
        due("7: no such what", x.watcher(0, 4), -2);
        due("7: no such what", x.watcher(0, -1), -2);
        x.look(1, 0, 0);
        due("7: as told", x.watcher(1, 3), 1);
        due("8: lure", x.show(0, 0), 4);
        due("8: STEP", x.show(0, 1), 1);
        due("8: no such", x.show(1, 0), -2);
        due("8: no such what", x.show(0, 2), -2);
        PennantLawn y = Check.lawn("race steps 1 law 0 goal 6 odds 3; boat at 30 needs 2;");
        due("6: as told", y.boat(0, 0), 30);
        due("9: goal at most", y.place(0, 0), 6);
    }

    private static void row(String what, int[] got, int... want) {
        for (int i = 0; i < want.length; i++) {
            due(what + " at " + i, got[i], want[i]);
        }
    }

    private static int[] placesOf(PennantLawn x, int boat) {
        int[] places = new int[x.count(0) + 1];
        for (int step = 0; step < places.length; step++) {
            places[step] = x.place(boat, step);
        }
        return places;
    }

    private static int[] looksOf(PennantLawn x, int watcher) {
        int[] looks = new int[x.count(0) + 1];
        for (int step = 0; step < looks.length; step++) {
            looks[step] = x.on(watcher, step);
        }
        return looks;
    }

    private static void places() {
        PennantLawn x = Check.lawn(PLAIN);
        row("9: place 0", placesOf(x, 0), 0, 2, 2, 4, 6);
        row("9: place 1", placesOf(x, 1), 1, 3, 5, 6, 6);
        row("9: place 2", placesOf(x, 2), 0, 0, 0, 0, 0);
        due("9: no such STEP", x.place(0, 5), -2);
        due("9: no such STEP", x.place(0, -1), -2);
        due("9: no such BOAT", x.place(3, 0), -2);
        due("22: gap", x.gap(0, 1, 0), -1);
        due("22: gap", x.gap(1, 0, 2), 3);
        due("22: of one", x.gap(1, 1, 2), 0);
        due("22: none", x.gap(1, 3, 2), -1000);
        due("22: none", x.gap(-1, 0, 2), -1000);
        due("22: none", x.gap(1, 0, 5), -1000);
        due("25: speed", x.speed(0, 0), 2);
        due("25: speed", x.speed(0, 1), 0);
        due("25: to goal", x.speed(1, 2), 1);
        due("25: the last", x.speed(1, 4), -2);
        due("28: fleet", x.fleet(0), 1);
        due("28: fleet", x.fleet(4), 12);
        due("28: no such", x.fleet(5), -2);
        PennantLawn y = Check.lawn("race steps 2 law 0 goal 60 odds 0; boat at 0 needs 1; "
                + "watcher eyes 9 sees 0 to 0 on 0;"
                + "watcher eyes 9 sees 0 to 0 on 0;");
        row("9: three at most", placesOf(y, 0), 0, 3, 6);
        due("11: EYES together", y.eyes(0, 1), 18);
    }

    private static void looksAndEyes() {
        PennantLawn x = Check.lawn(PLAIN);
        row("10: on", looksOf(x, 0), 0, 0, 0, 0, 0);
        row("10: on", looksOf(x, 1), 1, 1, 1, 1, 1);
        due("10: no such", x.on(3, 0), -2);
        due("10: no such", x.on(0, 5), -2);
        due("11: eyes", x.eyes(0, 0), 4);
        due("11: lured away, as many", x.eyes(0, 1), 0);
        due("11: not lured away", x.eyes(1, 1), 7);
        due("11: the last STEP", x.eyes(1, 4), -2);
        due("11: no such", x.eyes(3, 1), -2);
        due("12: awake", x.awake(0), 7);
        due("12: at a SHOW", x.awake(1), 2);
        due("12: the last STEP", x.awake(4), -2);
        due("12: no such", x.awake(-1), -2);
        due("13: lookers", x.lookers(1, 4), 2);
        due("13: lured, too", x.lookers(0, 1), 1);
        due("13: no such", x.lookers(0, 5), -2);
        due("13: no such", x.lookers(3, 0), -2);
        due("26: lacks", x.lacks(0, 1), 2);
        due("26: lacks", x.lacks(2, 0), 8);
        due("26: none", x.lacks(1, 0), 0);
        due("26: the last", x.lacks(1, 4), -2);
        due("27: total", x.total(0), 12);
        due("27: total", x.total(1), 28);
        due("27: total", x.total(2), 3);
        due("27: no such", x.total(3), -2);
    }

    private static void leaders() {
        PennantLawn x = Check.lawn(PLAIN);
        due("14: leads", x.leads(0), 1);
        due("14: the first of several", x.leads(4), 0);
        due("14: no such", x.leads(5), -2);
        due("15: lags", x.lags(0), 0);
        due("15: lags", x.lags(4), 2);
        due("15: no such", x.lags(-1), -2);
        due("16: front", x.front(0), 1);
        due("16: front", x.front(1), 4);
        due("16: front", x.front(2), 0);
        due("16: no such", x.front(3), -2);
        due("17: behind", x.behind(2, 0), 1);
        due("17: behind", x.behind(2, 4), 2);
        due("17: behind", x.behind(1, 1), 0);
        due("17: no such", x.behind(0, 5), -2);
        due("23: changes", x.changes(), 1);
    }

    private static void becalmed() {
        PennantLawn x = Check.lawn(PLAIN);
        due("18: calm", x.calm(0), 2);
        due("18: not at goal", x.calm(1), 0);
        due("18: eyes, too few", x.calm(2), 15);
        due("18: no such", x.calm(3), -2);
        due("19: drops", x.drops(), 0);
        due("37: calmest", x.calmest(), 2);
        PennantLawn y = Check.lawn("race steps 3 law 0 goal 6 odds 0; boat at 0 needs 1; "
                + "watcher eyes 1 sees 0 to 0 on 0;"
                + "show 1 at 2;");
        due("19: the first STEP", y.drops(), 2);
        due("18: calm", y.calm(0), 4);
        PennantLawn z = Check.lawn("race steps 3 law 0 goal 6 odds 0; boat at 6 needs 1; boat at 9 needs 1;");
        due("19: at none", z.drops(), -1);
        due("37: none", z.calmest(), -1);
        PennantLawn both = Check.lawn("race steps 3 law 0 goal 6 odds 0; boat at 6 needs 1; boat at 1 needs 1;"
                + "boat at 0 needs 1;");
        due("37: the first of several", both.calmest(), 1);
    }

    private static void homesAndWins() {
        PennantLawn x = Check.lawn(PLAIN);
        due("20: home", x.home(0), 4);
        due("20: home", x.home(1), 3);
        due("20: at none", x.home(2), -1);
        due("20: no such", x.home(3), -2);
        due("21: wins", x.wins(), 1);
        due("36: arrived", x.arrived(2), 0);
        due("36: arrived", x.arrived(3), 2);
        due("36: arrived", x.arrived(4), 3);
        due("36: no such", x.arrived(5), -2);
        due("21: the least of several", Check.lawn("race steps 1 law 0 goal 1 odds 0; boat at 0 needs 1;"
                + "boat at 1 needs 1; boat at 30 needs 1;").wins(), 1);
        due("21: none", Check.lawn("race steps 1 law 0 goal 4 odds 0; boat at 3 needs 1;").wins(), -1);
        due("21: at the last STEP", Check.lawn("race steps 1 law 0 goal 4 odds 0; boat at 3 needs 1;"
                + "watcher eyes 1 sees 0 to 0 on 0;").wins(), 0);
    }

    private static void counts() {
        PennantLawn x = Check.lawn(PLAIN);
        int[] want = {4, 0, 6, 3, 3, 3, 1, 0, 8, 0, 0};
        for (int what = 0; what < want.length; what++) {
            due("70: count " + what, x.count(what), want[what]);
        }
        due("70: others", x.count(11), -1);
        due("70: others", x.count(-1), -1);
        x.sneeze(0, 0);
        x.feed(1, 2, 3, 4, 5);
        x.row(2, 3, 0);
        due("70: acts", x.count(7), 1);
        due("70: bytes", x.count(9), 20);
        due("70: SLOTS, of no numbers, too", x.count(10), 1);
    }

    private static void bits() {
        PennantLawn x = Check.lawn(PLAIN);
        due("24: wavers", x.wavers(0), 0);
        due("29: gaze", x.gaze(1), 1);
        due("30: faithful", x.faithful(), 7);
        due("31: unseen", x.unseen(0), 0);
        due("32: seers", x.seers(0), 3);
        due("32: seers", x.seers(2), 5);
        due("32: no such", x.seers(3), -2);
        x.look(1, 0, 2);
        due("24: wavers", x.wavers(1), 1);
        due("30: not she", x.faithful(), 5);
        due("31: unseen behind", x.unseen(4), 2);
        due("31: seen ahead", x.unseen(1), 0);
        due("31: no such", x.unseen(5), -2);
        due("29: more", x.gaze(1), 0);
        x.look(1, 2, 4);
        due("29: the first of several", x.gaze(1), 0);
        due("24: twice", x.wavers(1), 2);
        x.look(2, 0, 0);
        due("32: sees as told", x.seers(0), 3);
        due("30: from STEP 0", x.faithful(), 1);
    }

    private static void orders() {
        PennantLawn x = Check.lawn(PLAIN);
        int[] first = {1, 0, 2};
        for (int i = 0; i < 3; i++) {
            due("33: order", x.order(i, 0), first[i]);
            due("33: order, as far", x.order(i, 4), i);
        }
        due("33: no such place", x.order(3, 0), -2);
        due("33: no such place", x.order(-1, 0), -2);
        due("33: no such STEP", x.order(0, 5), -2);
        due("34: even", x.even(0, 1), 1);
        due("34: even", x.even(2, 0), 1);
        due("34: one twice", x.even(0, 0), 5);
        due("34: no such", x.even(0, 3), -2);
        due("35: ahead at once", x.passes(1, 0), -1);
        due("35: passes", x.passes(0, 2), 1);
        due("35: at none", x.passes(2, 0), -1);
        due("35: one twice", x.passes(1, 1), -1);
        due("35: no such", x.passes(3, 0), -2);
    }

    private static void laws() {
        PennantLawn x = Check.lawn(PLAIN.replace("law 0", "law 1"));
        row("10: LAW 1", looksOf(x, 0), 0, 1, 1, 1, 1);
        row("10: LAW 1", looksOf(x, 1), 1, 1, 1, 1, 1);
        row("9: LAW 1", placesOf(x, 1), 1, 3, 5, 6, 6);
        row("9: LAW 1", placesOf(x, 0), 0, 2, 2, 2, 2);
        x = Check.lawn(PLAIN.replace("law 0", "law 2"));
        row("10: LAW 2", looksOf(x, 0), 0, 2, 2, 2, 2);
        row("10: LAW 2, the first of several", looksOf(x, 1), 1, 0, 1, 0, 1);
        row("9: LAW 2", placesOf(x, 0), 0, 2, 5, 5, 6);
        row("9: LAW 2", placesOf(x, 1), 1, 3, 3, 5, 5);
        x = Check.lawn(PLAIN.replace("law 0", "law 3"));
        row("10: LAW 3", looksOf(x, 0), 0, 1, 2, 0, 1);
        row("10: LAW 3", looksOf(x, 1), 1, 0, 1, 0, 1);
        row("10: LAW 3", looksOf(x, 2), 2, 2, 2, 2, 2);
        due("24: wavers", x.wavers(1), 4);
        x.look(1, 2, 1);
        row("10: LAW 3, from one that she does not see", looksOf(x, 1), 1, 2, 0, 1, 0);
        x = Check.lawn(PLAIN.replace("law 0", "law 1"));
        x.look(2, 0, 1);
        row("10: LAW 1, behind an act", looksOf(x, 2), 2, 0, 2, 2, 2);
        x = Check.lawn(PLAIN);
        x.look(2, 0, 1);
        row("10: LAW 0, behind an act", looksOf(x, 2), 2, 0, 0, 0, 0);
        x = Check.lawn("race steps 1 law 1 goal 9 odds 0; boat at 0 needs 1; boat at 0 needs 1; boat at 0 needs 1;"
                + "watcher eyes 1 sees 1 to 2 on 2; watcher eyes 1 sees 1 to 2 on 1;");
        due("10: LAW 1, the first of several", x.on(0, 1), 1);
    }

    private static void whatIf() {
        PennantLawn x = Check.lawn(PLAIN);
        due("38: clear", x.clear(0), 0);
        due("38: no such", x.clear(1), -2);
        due("39: key", x.key(), 1);
        due("40: handicap", x.handicap(0), 2);
        due("40: handicap", x.handicap(1), 4);
        due("40: never WINS", x.handicap(2), 1);
        due("40: no such", x.handicap(3), -2);
        due("41: start", x.start(0), 2);
        due("41: start", x.start(1), 0);
        due("41: start", x.start(2), 6);
        due("41: no such", x.start(3), -2);
        due("42: by", x.by(0), 1);
        due("42: by", x.by(1), 1);
        due("42: by", x.by(2), 0);
        due("42: by", x.by(3), 0);
        due("42: no such", x.by(4), -2);
        due("42: no such", x.by(-1), -2);
        due("42: as before", x.wins(), 1);
        due("42: as before", x.boat(0, 1), 2);
        PennantLawn y = Check.lawn("race steps 1 law 0 goal 31 odds 0; boat at 30 needs 1; boat at 29 needs 1;");
        due("41: by none", y.start(0), -1);
        due("39: none WINS", y.key(), -1);
        due("42: none", y.by(2), -1);
        PennantLawn z = Check.lawn("race steps 1 law 0 goal 3 odds 0; boat at 3 needs 1; "
                + "watcher eyes 1 sees 0 to 0 on 0;"
                + "show 1 at 0;");
        due("40: by none", z.handicap(0), -1);
        due("39: none", z.key(), -1);
        due("38: WINS likewise", z.clear(0), 0);
    }

    private static void allLooks() {
        PennantLawn x = Check.lawn(PLAIN);
        due("43: ways", x.ways(0), 3);
        due("43: ways", x.ways(1), 3);
        due("43: none", x.ways(2), 0);
        due("43: no such", x.ways(3), -2);
        due("44: plan", x.plan(0, 0), 0);
        due("44: plan", x.plan(0, 1), 0);
        due("44: plan", x.plan(1, 0), 0);
        due("44: plan", x.plan(1, 1), 1);
        due("44: plan", x.plan(1, 2), 2);
        due("44: none", x.plan(2, 0), -1);
        due("44: no such", x.plan(3, 0), -2);
        due("44: no such", x.plan(2, 3), -2);
        due("45: fewest", x.fewest(0), 1);
        due("45: as told", x.fewest(1), 0);
        due("45: none", x.fewest(2), -1);
        due("45: no such", x.fewest(-1), -2);
        due("46: soonest", x.soonest(0), 2);
        due("46: soonest", x.soonest(1), 2);
        due("46: none", x.soonest(2), -1);
        due("46: no such", x.soonest(3), -2);
        due("47: far", x.far(0), 6);
        due("47: far", x.far(2), 0);
        due("47: no such", x.far(3), -2);
        due("48: can", x.can(), 3);
        x.look(1, 1, 0);
        due("43: acts as now", x.ways(0), 0);
        due("44: acts as now", x.plan(1, 1), 0);
        due("48: acts as now", x.can(), 2);
        x.undo();
        due("48: taken back", x.can(), 3);
        PennantLawn most = Check.lawn(mostLooks());
        due("43: all LOOKS", most.ways(0), 3125);
        due("46: at once", most.soonest(0), 0);
        most.row(0, 0, 0);
        due("53: all LOOKS", most.fits(0), 3125);
        due("56: all LOOKS", most.leaves(0), 625);
    }

    private static String mostLooks() {
        return "race steps 20 law 1 goal 30 odds 0; boat at 30 needs 1;" + "boat at 0 needs 1;".repeat(4)
                + "watcher eyes 1 sees 0 to 4 on 4;".repeat(5);
    }

    private static void shows() {
        PennantLawn x = Check.lawn(PLAIN);
        due("49: spoils", x.spoils(), 2);
        due("50: lure", x.lure(1), 7);
        due("50: by none", x.lure(0), -1);
        due("50: the last STEP", x.lure(4), -2);
        due("50: no such", x.lure(-1), -2);
        PennantLawn y = Check.lawn("race steps 2 law 0 goal 30 odds 0; boat at 0 needs 1;");
        due("49: none WINS", y.spoils(), 0);
        due("50: none WINS", y.lure(0), -1);
    }

    private static void covers() {
        PennantLawn x = Check.lawn(PLAIN);
        due("51: cover", x.cover(), 1);
        due("52: covers", x.covers(), 1);
        String boats = "race steps 2 law 0 goal 30 odds 0; boat at 0 needs 1; boat at 0 needs 1; boat at 0 needs 1;";
        PennantLawn y = Check.lawn(boats + "watcher eyes 1 sees 0 to 1 on 0; watcher eyes 1 sees 0 to 0 on 0;"
                + "watcher eyes 1 sees 1 to 2 on 1; watcher eyes 1 sees 1 to 2 on 1;");
        due("51: two", y.cover(), 2);
        due("52: the least set", y.covers(), 5);
        PennantLawn z = Check.lawn(boats + "watcher eyes 1 sees 0 to 1 on 0;");
        due("51: not by all", z.cover(), -1);
        due("52: not by all", z.covers(), -1);
        due("51: no BOATS", Check.lawn(BARE).cover(), 0);
        due("52: no BOATS", Check.lawn(BARE).covers(), 0);
    }

    private static void seen() {
        PennantLawn x = Check.lawn(PLAIN);
        due("53: nothing", x.fits(0), -6);
        due("54: nothing", x.may(0, 0), -6);
        due("54: no such WATCHER ahead", x.may(0, 3), -2);
        due("55: nothing", x.ask(0), -6);
        due("56: nothing", x.leaves(0), -6);
        due("57: nothing", x.laws(0), -6);
        due("53: no such", x.fits(4), -2);
        due("57: no such", x.laws(-1), -2);
        Check.seen(x, 0, 0, 1, 2);
        seenIs(x, 1, new int[] {1, 2, 4}, -1, 1, 15);
        Check.seen(x, 0, 0, 1, 3);
        seenIs(x, 3, new int[] {7, 1, 4}, 0, 1, 0);
        Check.seen(x, 0, 0, 1, 0);
        seenIs(x, 2, new int[] {6, 2, 4}, 0, 1, 0);
        Check.seen(x, 0);
        seenIs(x, 6, new int[] {7, 3, 4}, 0, 2, 15);
        Check.seen(x, 0, 0, 2, 2);
        due("57: laws", x.laws(0), 3);
        Check.seen(x, 0, 0, 2, 5);
        due("57: laws", x.laws(0), 12);
        Check.seen(x, 0, 0, 0, 0, 0, 0, 1);
        seenIs(x, 0, new int[] {0, 0, 0}, -1, 0, 0);
        Check.seen(x, 0, 0, 1, 60);
        due("53: how far", x.fits(0), 0);
        wrongSeen(x, 0, 1, 61);
        wrongSeen(x, 0, 1, -1);
        wrongSeen(x, 3, 1, 0);
        wrongSeen(x, -1, 1, 0);
        wrongSeen(x, 0, 5, 0);
        wrongSeen(x, 0, -1, 0);
        wrongSeen(x, 0, 1);
        wrongSeen(x, 0, 1, 2, 0);
        x.row(0, 3, 3);
        x.write(0, 0, 1L << 32);
        due("53: a number of eight bytes", x.fits(0), -2);
        Check.seen(x, 0, 0, 1, 3);
        x.look(0, 0, 0);
        due("53: acts as now", x.fits(0), 3);
        x.look(1, 1, 0);
        due("53: acts as now", x.fits(0), 0);
    }

    private static void seenIs(PennantLawn x, int fits, int[] may, int ask, int leaves, int laws) {
        due("53: fits", x.fits(0), fits);
        for (int watcher = 0; watcher < may.length; watcher++) {
            due("54: may", x.may(0, watcher), may[watcher]);
        }
        due("55: ask", x.ask(0), ask);
        due("56: leaves", x.leaves(0), leaves);
        due("57: laws", x.laws(0), laws);
    }

    private static void wrongSeen(PennantLawn x, int... numbers) {
        Check.seen(x, 0, numbers);
        due("53: wrong", x.fits(0), -2);
        due("54: wrong", x.may(0, 0), -2);
        due("55: wrong", x.ask(0), -2);
        due("56: wrong", x.leaves(0), -2);
        due("57: wrong", x.laws(0), -2);
    }

    private static void shares() {
        PennantLawn x = Check.lawn(PLAIN);
        due("58: above", x.share(0, 0, 0), 6);
        due("58: below", x.share(0, 0, 1), 1);
        due("58: nothing", x.share(0, 1, 0), 0);
        due("58: nothing", x.share(0, 1, 1), 1);
        due("58: no such", x.share(0, 3, 0), -2);
        due("58: no such", x.share(3, 0, 0), -2);
        due("58: no such what", x.share(0, 0, 2), -2);
        // Alone 2 go one farther, all three go two: worth 0 1 1 1, one of two: 1, all: 2.
        PennantLawn y = Check.lawn("race steps 1 law 0 goal 9 odds 0; boat at 0 needs 2; "
                + "watcher eyes 2 sees 0 to 0 on 0;"
                + "watcher eyes 1 sees 0 to 0 on 0; watcher eyes 1 sees 0 to 0 on 0;");
        due("58: in lowest terms", y.share(0, 0, 0), 1);
        due("58: in lowest terms", y.share(0, 0, 1), 1);
        due("58: in lowest terms", y.share(0, 1, 0), 1);
        due("58: in lowest terms", y.share(0, 1, 1), 2);
        // By LAW 1 her eyes on BOAT 0 draw the other one away from BOAT 1.
        PennantLawn z = Check.lawn("race steps 2 law 1 goal 9 odds 0; boat at 0 needs 1; boat at 0 needs 1;"
                + "watcher eyes 2 sees 0 to 0 on 0; watcher eyes 1 sees 0 to 1 on 1;");
        due("58: below 0", z.share(1, 0, 0), -1);
        due("58: below 0", z.share(1, 0, 1), 2);
        due("58: the other", z.share(1, 1, 0), 3);
        due("58: the other", z.share(1, 1, 1), 2);
    }

    private static void games() {
        PennantLawn x = Check.lawn(PLAIN);
        due("59: rests", x.rests(0, 1), 1);
        due("60: rest", x.rest(0, 1), 1);
        due("60: rest", x.rest(1, 0), 10);
        due("59: one twice", x.rests(1, 1), -2);
        due("60: one twice", x.rest(1, 1), -2);
        due("59: no such", x.rests(0, 3), -2);
        due("60: no such", x.rest(-1, 0), -2);
        // Neither moves anything: all pairs are at REST.
        PennantLawn y = Check.lawn("race steps 1 law 0 goal 9 odds 0; boat at 0 needs 9; boat at 0 needs 9;"
                + "watcher eyes 2 sees 0 to 1 on 0; watcher eyes 1 sees 1 to 1 on 1;");
        due("59: all", y.rests(0, 1), 2);
        due("60: the first", y.rest(0, 1), 1);
        due("60: the first", y.rest(1, 0), 10);
    }

    private static void chances() {
        PennantLawn x = Check.lawn(PLAIN);
        due("61: surely", x.chance(1, 0, 0), 1);
        due("61: surely", x.chance(1, 0, 1), 1);
        due("61: never", x.chance(0, 0, 0), 0);
        due("61: never", x.chance(0, 0, 1), 1);
        due("61: above", x.chance(0, 3, 0), 343);
        due("61: below", x.chance(0, 3, 1), 1000);
        due("61: above", x.chance(1, 3, 0), 657);
        due("61: the last STEP", x.chance(1, 4, 0), -2);
        due("61: no such", x.chance(3, 0, 0), -2);
        due("61: no such", x.chance(0, -1, 0), -2);
        due("61: no such what", x.chance(0, 0, 2), -2);
        due("62: above", x.mean(0, 0, 0), 7);
        due("62: below", x.mean(0, 0, 1), 5);
        due("62: above", x.mean(1, 0, 0), 3);
        due("62: none", x.mean(2, 3, 0), 0);
        due("62: none", x.mean(2, 3, 1), 1);
        due("62: three STEPS", x.mean(0, 3, 0), 21);
        due("62: three STEPS", x.mean(0, 3, 1), 5);
        due("62: the last STEP", x.mean(0, 4, 0), -2);
        due("62: no such what", x.mean(0, 0, -1), -2);
        String longer = "race steps 20 law 0 goal 60 odds 3; boat at 0 needs 1; boat at 0 needs 1;"
                + "watcher eyes 5 sees 0 to 0 on 0; watcher eyes 6 sees 1 to 1 on 1;";
        PennantLawn y = Check.lawn(longer);
        due("61: eight STEPS, none of them", y.chance(0, 7, 0), 5764801);
        due("61: eight STEPS, none of them", y.chance(0, 7, 1), 100000000);
        due("61: nine", y.chance(0, 8, 0), -2);
        due("62: nine", y.mean(0, 8, 0), -2);
        PennantLawn z = Check.lawn(longer.replace("odds 3", "odds 10"));
        due("61: always", z.chance(0, 7, 0), 0);
        due("62: always", z.mean(0, 7, 0), 0);
        due("62: always", z.mean(1, 7, 0), 24);
    }

    private static void acts() {
        PennantLawn x = Check.lawn(PLAIN);
        due("63: look", x.look(1, 0, 1), 1);
        row("10: look", looksOf(x, 1), 1, 0, 0, 0, 0);
        row("9: look", placesOf(x, 0), 0, 2, 5, 6, 6);
        due("63: behind others", x.look(1, 2, 1), 0);
        due("63: the latest", x.on(1, 1), 2);
        due("63: at the last STEP", x.look(0, 1, 4), 0);
        due("63: at STEP 0", x.look(0, 2, 0), 0);
        due("63: no such", x.look(3, 0, 0), -2);
        due("63: no such", x.look(0, 3, 0), -2);
        due("63: no such", x.look(0, 0, 5), -2);
        due("70: acts", x.count(7), 4);
        due("65: undo", x.undo(), 3);
        due("65: taken back", x.on(0, 0), 0);
        due("66: anew", x.anew(), 3);
        due("66: none", x.anew(), 0);
        due("65: none", x.undo(), -5);
        row("9: anew", placesOf(x, 1), 1, 3, 5, 6, 6);
        due("64: sneeze", x.sneeze(0, 0), 1);
        due("64: again", x.sneeze(0, 0), 0);
        due("64: lured", x.sneeze(0, 1), 0);
        due("64: the last STEP", x.sneeze(0, 4), -2);
        due("64: no such", x.sneeze(3, 0), -2);
        due("64: place", x.place(0, 1), 0);
        due("12: sneeze", x.awake(0), 6);
        due("13: sneeze", x.lookers(0, 0), 1);
        due("65: undo", x.undo(), 2);
        due("65: undo", x.undo(), 1);
        due("65: still", x.awake(0), 6);
        for (int i = 2; i <= 30; i++) {
            due("63: so many", x.look(0, 0, 0), 0);
        }
        due("63: 30 acts", x.look(0, 0, 0), -5);
        due("64: 30 acts", x.sneeze(0, 0), -5);
        due("63: -2 ahead", x.look(0, 9, 0), -2);
        due("64: -2 ahead", x.sneeze(0, 4), -2);
        due("65: undo", x.undo(), 29);
        due("63: one more", x.sneeze(2, 0), 1);
    }

    private static void drawn() {
        // Draws from 0: 0 8 8 7 8 7 5 1 2 0 ..; from 7: 4 6 8 4 1 5 4 0 ..; from 2,000,000,000: 4 3 1 7 6 2 7 7 5 4 ..
        String text = "race steps 10 law 0 goal 18 odds 3; boat at 0 needs 1; boat at 0 needs 1;"
                + "watcher eyes 5 sees 0 to 0 on 0; watcher eyes 2 sees 1 to 1 on 1;";
        PennantLawn x = Check.lawn(text);
        due("67: STEPS", x.drawn(0, 0), 1 | 128 | 256 | 512);
        due("67: STEPS", x.drawn(7, 0), 16 | 128);
        due("67: STEPS", x.drawn(2000000000, 0), 4 | 32);
        due("67: WINS", x.drawn(0, 1), 0);
        due("67: no such", x.drawn(-1, 0), -2);
        due("67: no such", x.drawn(2000000001, 0), -2);
        due("67: no such what", x.drawn(0, 2), -2);
        due("67: all", Check.lawn(text.replace("odds 3", "odds 10")).drawn(0, 0), 1023);
        due("67: none WINS", Check.lawn(text.replace("odds 3", "odds 10")).drawn(0, 1), -1);
        due("67: none", Check.lawn(text.replace("odds 3", "odds 0")).drawn(0, 0), 0);
        PennantLawn y = Check.lawn(text.replace("goal 18", "goal 24"));
        due("67: none WINS", y.drawn(0, 1), -1);
        due("67: WINS", y.drawn(2000000000, 1), 0);
        int won = 0;
        for (int i = 0; i < 20; i++) {
            won += y.drawn(5 + i, 1) == 0 ? 1 : 0;
        }
        due("68: luck", y.luck(5, 20, 0), won);
        due("68: one", y.luck(2000000000, 1, 0), 1);
        due("68: one", y.luck(0, 1, 0), 0);
        due("68: n", y.luck(0, 0, 0), -2);
        due("68: n", y.luck(0, 21, 0), -2);
        due("68: seed", y.luck(-1, 1, 0), -2);
        due("68: seed", y.luck(2000000001, 1, 0), -2);
        due("68: BOAT", y.luck(0, 1, 2), -2);
    }

    private static void rates() {
        PennantLawn x = Check.lawn(PLAIN);
        due("69: rate", x.rate(1, 9), 3);
        due("69: from now on", x.boat(1, 1), 9);
        due("69: from now on", x.place(1, 1), 1);
        due("69: from now on", x.wins(), 0);
        due("69: from now on", x.ways(1), 0);
        due("69: no such", x.rate(1, 0), -2);
        due("69: no such", x.rate(1, 10), -2);
        due("69: no such", x.rate(3, 1), -2);
        x.sneeze(0, 0);
        due("69: acts", x.rate(1, 3), -5);
        due("69: -2 ahead", x.rate(1, 10), -2);
        x.undo();
        due("69: acts taken back", x.rate(1, 3), 9);
        due("69: as before", x.wins(), 1);
    }

    private static void images() {
        PennantLawn x = Check.lawn(PLAIN);
        due("71: no such", x.image(3), -2);
        due("71: no such", x.image(-1), -2);
        due("72: no such", x.back(3), -2);
        due("72: nothing", x.back(0), -6);
        x.look(1, 0, 1);
        due("71: image", x.image(0), 0);
        x.anew();
        x.rate(0, 9);
        due("71: image", x.image(2), 0);
        Check.race(x, BARE);
        due("72: back", x.back(0), 0);
        due("72: acts", x.count(7), 1);
        due("72: places", x.place(0, 2), 5);
        due("72: ways", x.ways(0), 6);
        due("72: undo", x.undo(), 0);
        due("72: back", x.back(2), 0);
        due("72: needs", x.boat(0, 1), 9);
        due("72: no acts", x.count(7), 0);
        due("72: back again", x.back(0), 0);
        due("72: acts again", x.count(7), 1);
        due("72: needs", x.boat(0, 1), 2);
        due("72: LINES", x.count(8), 8);
        x.anew();
        x.sneeze(2, 3);
        x.look(0, 2, 0);
        due("72: back behind other acts", x.back(0), 0);
        row("72: acts of the IMAGE", looksOf(x, 1), 1, 0, 0, 0, 0);
        row("72: acts of the IMAGE", looksOf(x, 0), 0, 0, 0, 0, 0);
        due("72: acts of the IMAGE", x.awake(3), 7);
        due("72: acts of the IMAGE", x.undo(), 0);
        PennantLawn y = new PennantLawn();
        due("71: of none", y.image(1), 0);
        Check.race(y, PLAIN);
        due("72: of none", y.back(1), 0);
        due("72: no RACE", y.wins(), -2);
    }

    private static void slots() {
        PennantLawn x = Check.lawn(PLAIN);
        due("73: no such SLOT", x.row(4, 0, 1), -2);
        due("73: no such SLOT", x.row(-1, 0, -1), -2);
        due("73: no such WIDTH", x.row(0, 4, 1), -2);
        due("73: no such WIDTH", x.row(0, -1, 1), -2);
        due("73: too many", x.row(0, 0, 61), -2);
        due("73: below 0", x.row(0, 0, -1), -3);
        due("73: stays", x.count(10), 0);
        due("73: row", x.row(0, 0, 60), 0);
        due("70: one", x.count(10), 1);
        due("73: all 0", x.fits(0), 6);
        due("74: last", x.write(0, 59, 60), 0);
        due("74: as written", x.fits(0), 0);
        due("74: cut", x.write(0, 59, 256), 0);
        due("74: cut", x.fits(0), 6);
        due("74: no such number", x.write(0, 60, 1), -7);
        due("74: no such number", x.write(0, -1, 1), -7);
        due("74: no such SLOT", x.write(4, 0, 1), -2);
        due("74: nothing", x.write(1, 0, 1), -6);
        due("73: below 0", x.row(0, 0, -1), -3);
        due("73: stays", x.fits(0), 6);
        x.row(0, 0, 3);
        x.write(0, 0, 77);
        due("73: row", x.row(0, 1, 3), 0);
        due("73: all 0 again", x.fits(0), 6);
        widths(x);
        pastes(x);
    }

    private static void widths(PennantLawn x) {
        long[] whole = {1L << 8, 1L << 16, 1L << 32};
        for (int width = 0; width < 3; width++) {
            x.row(1, width, 3);
            x.write(1, 2, whole[width] + 1);
            due("74: cut to its WIDTH, 1", x.fits(1), 0);
            x.write(1, 2, -whole[width]);
            due("74: cut to its WIDTH, 0", x.fits(1), 6);
            x.write(1, 2, whole[width] / 2);
            due("74: not cut", x.fits(1), -2);
        }
        x.row(1, 3, 3);
        x.write(1, 2, Long.MIN_VALUE);
        due("74: whole", x.fits(1), -2);
        x.write(1, 2, 0);
        due("74: whole", x.fits(1), 6);
    }

    private static void pastes(PennantLawn x) {
        Check.seen(x, 0, 0, 1, 3, 1, 1, 1);
        due("75: nothing", x.paste(0, 0, 2, 0, 1), -6);
        due("75: nothing", x.paste(2, 0, 0, 0, 1), -6);
        due("75: no such SLOT", x.paste(4, 0, 2, 0, 1), -2);
        due("75: no such SLOT", x.paste(2, 0, -1, 0, 1), -2);
        x.row(2, 1, 6);
        due("75: WIDTHS", x.paste(0, 0, 2, 0, 1), -8);
        due("75: WIDTHS ahead of places", x.paste(0, -1, 2, 0, 1), -8);
        x.row(2, 0, 3);
        due("75: beyond", x.paste(0, 0, 2, 0, 4), -7);
        due("75: beyond", x.paste(0, 4, 2, 0, 3), -7);
        due("75: beyond", x.paste(0, 0, 2, 4, 0), -7);
        due("75: beyond", x.paste(0, 7, 2, 0, 0), -7);
        due("75: below 0", x.paste(0, 0, 2, 0, -1), -7);
        due("75: below 0", x.paste(0, -1, 2, 0, 1), -7);
        due("75: below 0", x.paste(0, 0, 2, -1, 1), -7);
        due("75: wrap around", x.paste(0, Integer.MAX_VALUE, 2, 0, Integer.MAX_VALUE), -7);
        due("75: nothing happened", x.fits(2), 6);
        due("75: none, behind all", x.paste(0, 6, 2, 3, 0), 0);
        due("75: paste", x.paste(0, 0, 2, 0, 3), 0);
        due("75: pasted", x.fits(2), 3);
        due("75: its own", x.paste(0, 0, 0, 3, 3), 0);
        due("75: pasted", x.fits(0), 3);
        // 0 1 3 0 1 3 one on: 0 0 1 3 0 1, where a copy one by one would make 0 0 0 0 0 0
        x.row(3, 0, 6);
        int[] numbers = {0, 1, 3, 0, 1, 3};
        for (int i = 0; i < 6; i++) {
            x.write(3, i, numbers[i]);
        }
        due("75: over itself", x.paste(3, 0, 3, 1, 5), 0);
        x.write(3, 0, 2);
        // 2 0 1, 3 0 1: there is no BOAT 3
        due("75: over itself, as they were", x.fits(3), -2);
        due("75: back over itself", x.paste(3, 1, 3, 0, 5), 0);
        x.write(3, 5, 3);
        due("75: as they were", x.fits(3), 3);
    }

    /** A RACE of no BOATS and no WATCHERS is one. */
    private static void bare() {
        PennantLawn x = Check.lawn(BARE);
        due("14: none", x.leads(0), -1);
        due("15: none", x.lags(3), -1);
        due("14: no such STEP", x.leads(4), -2);
        due("19: at none", x.drops(), -1);
        due("21: none", x.wins(), -1);
        due("23: never", x.changes(), 0);
        due("28: together", x.fleet(3), 0);
        due("30: nobody", x.faithful(), 0);
        due("31: none", x.unseen(3), 0);
        due("12: nobody", x.awake(2), 0);
        due("33: no place", x.order(0, 0), -2);
        due("36: none", x.arrived(0), 0);
        due("37: none", x.calmest(), -1);
        due("39: none", x.key(), -1);
        due("42: none", x.by(3), -1);
        due("48: none", x.can(), 0);
        due("49: none", x.spoils(), 0);
        due("50: none", x.lure(2), -1);
        x.row(0, 0, 0);
        due("53: the empty LOOKS", x.fits(0), 1);
        due("55: nobody", x.ask(0), -1);
        due("56: as now", x.leaves(0), 1);
        due("57: all", x.laws(0), 15);
        due("67: none", x.drawn(3, 1), -1);
        due("66: none", x.anew(), 0);
        due("65: none", x.undo(), -5);
        due("71: image", x.image(0), 0);
    }

    private static void wrongOnes() {
        PennantLawn x = Check.lawn(PLAIN);
        x.row(0, 0, 0);
        for (int far : FAR_OFF) {
            long[] got = {x.boat(far, 0), x.watcher(far, 0), x.show(far, 0), x.place(far, 0), x.place(0, far),
                x.on(far, 0), x.on(0, far), x.eyes(far, 0), x.eyes(0, far), x.awake(far), x.lookers(far, 0),
                x.lookers(0, far), x.leads(far), x.lags(far), x.front(far), x.behind(far, 0), x.behind(0, far),
                x.calm(far), x.home(far), x.wavers(far), x.speed(far, 0), x.speed(0, far), x.lacks(far, 0),
                x.lacks(0, far), x.total(far), x.fleet(far), x.gaze(far), x.unseen(far), x.seers(far),
                x.order(far, 0), x.order(0, far), x.even(far, 0), x.even(0, far), x.passes(far, 0),
                x.passes(0, far), x.arrived(far), x.clear(far), x.handicap(far), x.start(far), x.by(far),
                x.ways(far), x.plan(far, 0), x.plan(0, far), x.fewest(far), x.soonest(far), x.far(far),
                x.lure(far), x.fits(far), x.may(far, 0), x.may(0, far), x.ask(far), x.leaves(far), x.laws(far),
                x.share(far, 0, 0), x.share(0, far, 0), x.share(0, 0, far), x.rests(far, 0), x.rests(0, far),
                x.rest(far, 0), x.rest(0, far), x.chance(far, 0, 0), x.chance(0, far, 0), x.chance(0, 0, far),
                x.mean(far, 0, 0), x.mean(0, far, 0), x.mean(0, 0, far), x.look(far, 0, 0), x.look(0, far, 0),
                x.look(0, 0, far), x.sneeze(far, 0), x.sneeze(0, far), x.drawn(0, far), x.luck(0, 1, far),
                x.rate(far, 1), x.image(far), x.back(far), x.row(far, 0, 0), x.row(1, far, 0), x.write(far, 0, 0),
                x.paste(far, 0, 0, 0, 0), x.paste(0, 0, far, 0, 0)};
            for (int i = 0; i < got.length; i++) {
                due("wrong one " + i + " of " + far, got[i], -2);
            }
            due("22: wrong one", x.gap(far, 0, 0), -1000);
            due("22: wrong one", x.gap(0, far, 0), -1000);
            due("22: wrong one", x.gap(0, 0, far), -1000);
        }
        due("70: no acts of these", x.count(7), 0);
        due("70: SLOTS", x.count(10), 1);
    }
}
