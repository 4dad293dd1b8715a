/** The bounds of the SLOTS and of what was SEEN (terms I, VI, promises 53 to 57, 73 to 75), sentence by sentence. */
public final class SlotBoundsTest {
    private static final String RACE = "race steps 2 law 0 goal 60 odds 0;";
    /** One WATCHER who sees two BOATS: a row of 0 0 0 fits both LOOKS, 0 1 1 the first, 1 1 1 the other one. */
    private static final String TWO = RACE + "boat at 0 needs 1;".repeat(2) + "watcher eyes 1 sees 0 to 1 on 0;";
    /** Three WATCHERS, five BOATS: BOATS 2, 3 and 4 are seen by one alone. */
    private static final String THREE = RACE + "boat at 0 needs 1;".repeat(5) + "watcher eyes 1 sees 0 to 1 on 0;"
            + "watcher eyes 1 sees 0 to 2 on 0; watcher eyes 1 sees 0 to 4 on 0;";
    private static final String[] ASKED = {"fits #", "may # 0", "ask #", "leaves #", "laws #"};
    private static final long[] BYTES = {1, 2, 4, 8};

    private SlotBoundsTest() {
    }

    public static void main(String[] args) {
        rowsThatAreTaken();
        rowsThatAreRefused();
        rowsInPlaceOfOthers();
        writeToNumbersThereAre();
        writeIsCutToItsWidth();
        pasteWithinBothRows();
        pasteBeyondThem();
        pasteAsksInOrder();
        pasteAsTheyWere();
        pasteKeepsWideNumbers();
        seenWithoutASlot();
        seenNumbersThereAre();
        seenThreeEach();
        seenIsAskedLast();
        seenByWideNumbers();
        seenFits();
        seenAnew();
        mayAndBits();
        askAndLeaves();
        askIfFewer();
        lawsAsTold();
        Check.finish("SlotBoundsTest");
    }

    /** 73: "a row of n numbers of a WIDTH", SLOTS 0 .. 3, WIDTHS 0 .. 3, at most 60, none too; 70, what 10. */
    private static void rowsThatAreTaken() {
        Caller x = new Caller("rows taken");
        for (int slot = 0; slot < 4; slot++) {
            x.due("count 10 = " + slot, "row " + slot + " " + (3 - slot) + " 60 = 0", "count 10 = " + (slot + 1));
            x.due("write " + slot + " 59 1 = 0", "write " + slot + " 60 1 = -7");
        }
        for (int width = 0; width < 4; width++) {
            x.due("row 2 " + width + " 0 = 0", "write 2 0 1 = -7", "row 2 " + width + " 1 = 0", "write 2 0..1 1 = 0 -7",
                    "row 2 " + width + " 60 = 0", "write 2 59..60 1 = 0 -7", "count 10 = 4");
        }
    }

    /** 73: "-2: there is no such SLOT or WIDTH (0 .. 3), or n is above 60; -3, and the SLOT stays: n is below 0." */
    private static void rowsThatAreRefused() {
        Caller x = new Caller("rows refused");
        x.due("row -1 0 1 = -2", "row 4 0 1 = -2", "row MIN 0 1 = -2", "row MAX 0 1 = -2");
        x.due("row 0 -1 1 = -2", "row 0 4 1 = -2", "row 0 MIN 1 = -2", "row 0 MAX 1 = -2");
        x.due("row 0 0 61 = -2", "row 0 0 MAX = -2", "row 0 0 -1 = -3", "row 0 0 MIN = -3");
        x.due("row -1 0 -1 = -2", "row 4 0 MIN = -2", "row 0 4 -1 = -2", "row 0 -1 MIN = -2");
        x.due("count 10 = 0", "write 0..3 0 0 = -6");
        Caller stays = Caller.of("the row stays", TWO);
        stays.row(3, 1, 1, 1);
        stays.due("fits 3 = 1", "row 3 0 -1 = -3", "row 3 1 MIN = -3", "fits 3 = 1", "may 3 0 = 2");
        stays.due("row 3 0 61 = -2", "row 3 4 3 = -2", "row 3 -1 3 = -2", "fits 3 = 1", "write 3 3 0 = -7",
                "row 0 0 3 = 0", "paste 3 0 0 0 3 = 0", "fits 0 = 1", "count 10 = 2");
    }

    /** 73: "all 0 (in place of another one)". */
    private static void rowsInPlaceOfOthers() {
        for (int width = 0; width < 4; width++) {
            Caller x = Caller.of("all 0, WIDTH " + width, TWO);
            x.due("row 1 " + width + " 60 = 0", "fits 1 = 2", "write 1 0..59 7 = 0", "fits 1 = -2");
            x.due("row 1 " + width + " 60 = 0", "fits 1 = 2", "laws 1 = 15", "write 1 57 1 = 0", "write 1 58 1 = 0",
                    "write 1 59 1 = 0", "fits 1 = 1", "row 1 " + width + " 57 = 0", "fits 1 = 2",
                    "row 1 " + width + " 60 = 0", "fits 1 = 2", "count 10 = 1");
        }
        Caller y = Caller.of("of another WIDTH", TWO);
        y.due("row 0 0 3 = 0", "row 1 1 3 = 0", "paste 0 0 1 0 3 = -8", "row 1 0 3 = 0", "paste 0 0 1 0 3 = 0",
                "row 0 3 2 = 0", "write 0 1..2 0 = 0 -7", "paste 0 0 1 0 2 = -8");
    }

    /** 74: "-2: there is no such SLOT; -6: it has nothing; -7: there is no such number." */
    private static void writeToNumbersThereAre() {
        Caller x = new Caller("write");
        x.due("write -1 0 0 = -2", "write 4 0 0 = -2", "write MIN MIN MIN = -2", "write MAX MAX MAX = -2");
        x.due("write 0..3 0 0 = -6", "write 0 -1 0 = -6", "write 3 MAX 0 = -6");
        x.due("row 0 0 0 = 0", "write 0 -1..1 0 = -7", "write 1 0 0 = -6");
        x.due("row 0 0 1 = 0", "write 0 -1..1 0 = -7 0 -7", "write 0 MIN 0 = -7", "write 0 MAX 0 = -7");
        x.due("row 0 3 60 = 0", "write 0 -1..60 MIN = -7" + " 0".repeat(60) + " -7", "write 0 59 MAX = 0");
        Caller y = Caller.of("a write refused changes nothing", TWO);
        y.row(0, 1, 1, 1);
        y.due("write 0 3 0 = -7", "write 0 -1 0 = -7", "write 1 0 0 = -6", "write 4 0 0 = -2", "fits 0 = 1",
                "may 0 0 = 2", "row 1 0 3 = 0", "write 1 3 9 = -7", "fits 1 = 2", "fits 0 = 1");
    }

    /** 74: "v, cut to its WIDTH": what is above its bytes is gone, what is within them stays. */
    private static void writeIsCutToItsWidth() {
        for (int width = 0; width < 4; width++) {
            Caller x = Caller.of("cut to WIDTH " + width, TWO);
            x.due("row 0 " + width + " 3 = 0", "write 0 0 1 = 0", "write 0 1 1 = 0", "write 0 2 1 = 0", "fits 0 = 1");
            x.due("write 0 2 0 = 0", "fits 0 = 1", "may 0 0 = 1");
            for (int from = 0; from < 4; from++) {
                long beyond = from == 3 ? 0 : 1L << 8 * BYTES[from];
                boolean gone = from >= width;
                x.due("write 0 2 " + (beyond + 1) + " = 0", "fits 0 = " + (gone ? 1 : -2));
                x.due("may 0 0 = " + (gone ? 2 : -2), "write 0 2 " + (1 - beyond) + " = 0");
                x.due("fits 0 = " + (gone ? 1 : -2), "write 0 2 " + beyond + " = 0", "fits 0 = " + (gone ? 1 : -2));
                x.due("may 0 0 = " + (gone ? 1 : -2));
            }
            x.due("write 0 2 MIN = 0", "fits 0 = " + (width < 3 ? 1 : -2));
            x.due("write 0 2 MAX = 0", "fits 0 = -2", "write 0 2 -1 = 0", "fits 0 = -2");
            // The highest byte that stays is no 0 of its own.
            x.due("write 0 2 " + (1L << 8 * BYTES[width] - 8) + " = 0", "fits 0 = " + (width == 0 ? 1 : -2),
                    "write 0 2 " + (1L << 8 * BYTES[width] - 1) + " = 0", "fits 0 = -2");
            x.due("write 0 2 0 = 0", "fits 0 = 1");
        }
    }

    /** 75: "So many numbers .., from one on, are put to another one's (or its own), from one on". */
    private static void pasteWithinBothRows() {
        Caller x = new Caller("paste within");
        x.due("row 0 0 60 = 0", "row 1 0 60 = 0", "row 2 0 1 = 0", "row 3 0 0 = 0");
        x.due("paste 0 0 1 0 60 = 0", "paste 0 0 0 0 60 = 0", "paste 0 59 1 59 1 = 0", "paste 0 0 1 59 1 = 0",
                "paste 0 59 1 0 1 = 0", "paste 0 59 2 0 1 = 0", "paste 2 0 0 59 1 = 0", "paste 2 0 2 0 1 = 0");
        x.due("paste 0 60 1 60 0 = 0", "paste 0 0 1 0 0 = 0", "paste 2 1 3 0 0 = 0", "paste 3 0 3 0 0 = 0",
                "paste 3 0 0 60 0 = 0");
        Caller moved = Caller.of("paste from one on", TWO);
        moved.due("row 0 0 60 = 0", "write 0 57..59 1 = 0", "row 1 0 6 = 0", "fits 0 = 1", "paste 0 57 1 3 3 = 0",
                "fits 1 = 1", "may 1 0 = 2", "row 1 0 6 = 0", "paste 0 57 1 0 3 = 0", "fits 1 = 1", "row 1 0 3 = 0",
                "paste 0 58 1 1 2 = 0", "fits 1 = 1", "may 1 0 = 1", "fits 0 = 1", "row 1 0 3 = 0",
                "paste 0 56 1 0 3 = 0", "fits 1 = 1", "may 1 0 = 1", "row 1 0 3 = 0", "paste 0 57 1 0 2 = 0",
                "fits 1 = 1", "may 1 0 = 1", "row 1 0 3 = 0", "paste 0 57 1 0 0 = 0", "fits 1 = 2");
    }

    /** 75: "-7, and nothing happens: some are beyond their rows (also where n is 0: ..), or .. is below 0." */
    private static void pasteBeyondThem() {
        Caller x = new Caller("paste beyond");
        x.due("row 0 0 60 = 0", "row 1 0 5 = 0", "row 2 0 0 = 0");
        x.due("paste 0 0 1 0 6 = -7", "paste 0 0 1 1 5 = -7", "paste 0 0 1 5 1 = -7", "paste 1 0 0 0 6 = -7",
                "paste 1 1 0 0 5 = -7", "paste 1 5 0 0 1 = -7", "paste 0 0 0 1 60 = -7", "paste 0 1 0 0 60 = -7",
                "paste 0 60 0 0 1 = -7", "paste 2 0 0 0 1 = -7", "paste 0 0 2 0 1 = -7");
        x.due("paste 0 61 1 0 0 = -7", "paste 0 0 1 6 0 = -7", "paste 2 1 0 0 0 = -7", "paste 0 0 2 1 0 = -7",
                "paste 1 6 1 0 0 = -7", "paste 1 5 1 5 0 = 0");
        x.due("paste 0 -1 1 0 1 = -7", "paste 0 0 1 -1 1 = -7", "paste 0 0 1 0 -1 = -7", "paste 0 -1 1 0 0 = -7",
                "paste 0 0 1 -1 0 = -7", "paste 0 5 1 5 -5 = -7", "paste 0 -1 1 0 2 = -7");
        x.due("paste 0 MIN 1 0 0 = -7", "paste 0 0 1 MIN 0 = -7", "paste 0 0 1 0 MIN = -7", "paste 0 MAX 1 0 0 = -7",
                "paste 0 0 1 MAX 0 = -7", "paste 0 0 1 0 MAX = -7", "paste 0 MAX 1 0 MAX = -7",
                "paste 0 0 1 MAX MAX = -7", "paste 0 1 1 0 MAX = -7", "paste 0 0 1 1 MAX = -7",
                "paste 0 MIN 1 MIN MIN = -7", "paste 0 MIN 1 0 MIN = -7");
        Caller stays = Caller.of("nothing happens", TWO);
        stays.row(0, 0, 0, 0, 1, 1, 1);
        stays.row(1, 0, 0, 0);
        stays.due("fits 0 = 1", "fits 1 = 2", "paste 0 3 1 0 4 = -7", "paste 0 4 1 0 3 = -7", "paste 0 3 1 1 3 = -7",
                "paste 0 3 1 -1 3 = -7", "paste 1 0 0 4 3 = -7", "paste 0 0 0 4 3 = -7", "fits 1 = 2", "may 1 0 = 3",
                "fits 0 = 1", "may 0 0 = 2", "paste 0 3 1 0 3 = 0", "fits 1 = 1");
    }

    /** 75: -2, -6, -8, -7 as they stand. */
    private static void pasteAsksInOrder() {
        Caller x = new Caller("paste, in order");
        x.due("paste -1 0 0 0 0 = -2", "paste 0 0 -1 0 0 = -2", "paste 4 0 0 0 0 = -2", "paste 0 0 4 0 0 = -2",
                "paste MIN 0 0 0 0 = -2", "paste 0 0 MIN 0 0 = -2", "paste MAX 0 0 0 0 = -2", "paste 0 0 MAX 0 0 = -2");
        x.due("paste 0 0 0 0 0 = -6", "paste 0 0 3 0 0 = -6", "paste 0 -1 1 -1 -1 = -6", "row 0 0 3 = 0");
        x.due("paste 0 0 3 0 0 = -6", "paste 3 0 0 0 0 = -6", "paste 0 9 3 9 9 = -6", "paste 4 0 3 0 0 = -2",
                "paste 3 0 4 0 0 = -2", "paste 0 -1 4 -1 -1 = -2");
        for (int width = 1; width < 4; width++) {
            x.due("row 3 " + width + " 3 = 0", "paste 0 0 3 0 0 = -8", "paste 3 0 0 0 3 = -8", "paste 0 4 3 0 0 = -8",
                    "paste 0 -1 3 -1 -1 = -8", "paste 3 MAX 0 MIN MAX = -8", "paste 3 0 1 0 0 = -6");
        }
        x.due("row 3 0 3 = 0", "paste 0 0 3 0 3 = 0", "paste 0 0 3 0 4 = -7");
    }

    /** 75: "(or its own) .. as they were": also where what is put lies upon what is taken. */
    private static void pasteAsTheyWere() {
        Caller up = Caller.of("paste up its own", TWO);
        up.row(0, 0, 1, 1, 0, 0, 0);
        // 0 1 1 put one on: 0 0 1 1 ..; two on; three on: the same twice.
        up.due("fits 0 = 1", "may 0 0 = 1", "paste 0 0 0 3 3 = 0", "fits 0 = 1", "may 0 0 = 1", "paste 0 0 0 1 5 = 0",
                "fits 0 = 0");
        Caller own = Caller.of("paste upon itself", TWO);
        own.row(0, 1, 0, 0, 1, 1, 1, 0, 0, 0);
        // 1 0 0 1 1 1 0 0 0 is 1 0 0 1 0 0 1 1 1 then; a copy number by number would have it 1 0 0 1 0 0 1 0 0.
        own.due("may 0 0 = 2", "paste 0 0 0 3 6 = 0", "fits 0 = 1", "may 0 0 = 2", "write 0 8 0 = 0", "may 0 0 = 1",
                "write 0 6 0 = 0", "may 0 0 = 2");
        Caller down = Caller.of("paste down its own", TWO);
        down.row(0, 0, 0, 0, 1, 1, 1, 0, 0, 0);
        down.due("paste 0 3 0 0 6 = 0", "fits 0 = 1", "may 0 0 = 2", "row 1 0 3 = 0", "paste 0 0 1 0 3 = 0",
                "may 1 0 = 2", "row 1 0 3 = 0", "paste 0 3 1 0 3 = 0", "may 1 0 = 3");
    }

    private static void pasteKeepsWideNumbers() {
        for (int width = 0; width < 4; width++) {
            Caller x = Caller.of("paste of WIDTH " + width, TWO);
            long highest = 1L << 8 * BYTES[width] - 2;
            x.due("row 0 " + width + " 3 = 0", "row 1 " + width + " 3 = 0", "write 0 2 " + highest + " = 0");
            x.due("paste 0 0 1 0 3 = 0", "fits 1 = -2", "write 1 2 0 = 0", "fits 1 = 2");
            x.due("write 0 2 1 = 0", "write 0 1 1 = 0", "paste 0 0 1 0 3 = 0", "fits 1 = 1", "may 1 0 = 1");
        }
    }

    /** 53 .. 57: "-2: there is no such SLOT, no RACE ..; -6: it has nothing"; I: "-2 is asked ahead of .. -6". */
    private static void seenWithoutASlot() {
        Caller x = new Caller("SEEN without a RACE");
        for (String asked : ASKED) {
            for (String slot : new String[] {"0", "3", "4", "-1", "MIN", "MAX"}) {
                x.due(asked.replace("#", slot) + " = -2");
            }
        }
        x.row(0, 0, 0, 0);
        x.due("fits 0..1 = -2", "may 0..1 0 = -2", "ask 0..1 = -2", "leaves 0..1 = -2", "laws 0..1 = -2");
        Caller y = Caller.of("SEEN without a SLOT", TWO);
        for (String asked : ASKED) {
            for (String slot : new String[] {"4", "-1", "MIN", "MAX"}) {
                y.due(asked.replace("#", slot) + " = -2");
            }
            y.due(asked.replace("#", "0..3") + " = -6");
        }
        y.due("may 0 -1 = -2", "may 0 1 = -2", "may 0 MIN = -2", "may 0 MAX = -2", "may 4 0 = -2");
        y.due("row 3 0 0 = 0", "fits 2..3 = -6 2", "may 3 -1..1 = -2 3 -2", "race = 0", "fits 2..3 = -2",
                "may 3 0 = -2");
        Caller nobody = Caller.of("SEEN without WATCHERS", RACE + "boat at 7 needs 1;");
        nobody.row(0, 0, 2, 7);
        nobody.row(1, 0, 2, 8);
        nobody.due("fits 0..1 = 1 0", "ask 0..1 = -1", "leaves 0..1 = 1 0", "laws 0..1 = 15 0", "may 0 0 = -2",
                "fits 2 = -6", "may 2 0 = -2");
        Caller empty = Caller.of("SEEN without BOATS", RACE);
        empty.due("row 0 0 0 = 0", "row 1 0 3 = 0", "fits 0..2 = 1 -2 -6", "leaves 0 = 1", "laws 0 = 15", "ask 0 = -1");
    }

    private static void seenNumber(String told, int i, int low, int high) {
        Caller x = Caller.of("SEEN, number " + i + " of " + told, told);
        x.due("row 0 0 6 = 0");
        for (int at = i; at < 6; at += 3) {
            for (int n = low - 1; n <= high + 1; n++) {
                boolean such = low <= n && n <= high;
                x.due("write 0 " + at + " " + n + " = 0");
                Check.holds("SEEN, number " + at + " is " + n + " of " + told, x.ask("fits 0") == -2 != such);
            }
            x.due("write 0 " + at + " 127 = 0");
            for (String asked : ASKED) {
                x.due(asked.replace("#", "0") + " = -2");
            }
            x.due("write 0 " + at + " -128 = 0", "fits 0 = -2", "write 0 " + at + " 0 = 0");
        }
    }

    /** 53: "a number is none such (how far 0 .. 60 ..)", the BOATS and STEPS of this RACE. */
    private static void seenNumbersThereAre() {
        seenNumber(TWO, 0, 0, 1);
        seenNumber(TWO, 1, 0, 2);
        seenNumber(TWO, 2, 0, 60);
        seenNumber(THREE, 0, 0, 4);
        String most = "race steps 20 law 0 goal 60 odds 0; boat at 0 needs 1; watcher eyes 1 sees 0 to 0 on 0;";
        seenNumber(most, 0, 0, 0);
        seenNumber(most, 1, 0, 20);
        seenNumber(most.replace("steps 20", "steps 1"), 1, 0, 1);
        seenNumber(most.replace("goal 60", "goal 1"), 2, 0, 60);
        Caller x = Caller.of("how far: goal and beyond it", most.replace("goal 60", "goal 5"));
        x.row(0, 0, 20, 5);
        x.row(1, 0, 20, 60);
        x.row(2, 0, 20, 61);
        x.due("fits 0..2 = 1 0 -2", "laws 0..2 = 15 0 -2", "may 0..2 0 = 1 0 -2", "leaves 0..2 = 1 0 -2",
                "ask 0..2 = -1 -1 -2");
        Caller far = Caller.of("how far: 60", "race steps 20 law 0 goal 60 odds 0; boat at 30 needs 3;"
                + "watcher eyes 9 sees 0 to 0 on 0;");
        far.row(0, 0, 20, 60, 0, 10, 60, 0, 9, 57);
        far.row(1, 0, 9, 60);
        far.due("fits 0..1 = 1 0", "laws 0..1 = 15 0");
    }

    /** 53: "not three each". */
    private static void seenThreeEach() {
        for (int n = 0; n <= 60; n++) {
            Caller x = Caller.of("SEEN of " + n + " numbers", TWO);
            boolean each = n % 3 == 0;
            x.due("row 0 0 " + n + " = 0", "fits 0 = " + (each ? 2 : -2), "may 0 0 = " + (each ? 3 : -2),
                    "ask 0 = " + (each ? 0 : -2), "leaves 0 = " + (each ? 1 : -2), "laws 0 = " + (each ? 15 : -2));
        }
        Caller full = Caller.of("the last three of twenty", TWO);
        full.due("row 0 0 60 = 0", "write 0 57 1 = 0", "write 0 58 2 = 0", "write 0 59 2 = 0", "fits 0 = 1",
                "may 0 0 = 2", "write 0 59 61 = 0", "fits 0 = -2", "write 0 59 2 = 0", "write 0 58 3 = 0",
                "fits 0 = -2", "write 0 58 2 = 0", "write 0 57 2 = 0", "fits 0 = -2");
    }

    /** 53: "(.. asked last)": a SLOT that has nothing is -6, one that has other numbers -2; no SLOT is -2. */
    private static void seenIsAskedLast() {
        Caller x = Caller.of("asked last", TWO);
        x.due("row 1 0 1 = 0", "row 2 0 3 = 0", "write 2 0 9 = 0", "fits 0..3 = -6 -2 -2 -6",
                "may 0..3 0 = -6 -2 -2 -6", "may 0..3 1 = -2", "ask 0..3 = -6 -2 -2 -6",
                "leaves 0..3 = -6 -2 -2 -6", "laws 0..3 = -6 -2 -2 -6");
        x.row(2, 0, 2, 2);
        x.due("fits 2 = 1");
        x.feed(TWO.replace("steps 2", "steps 1"));
        x.due("race = 4", "fits 2 = -2", "fits 0 = -6");
    }

    /** VI of rows of each WIDTH: a number beyond an int is none such, and not another one. */
    private static void seenByWideNumbers() {
        for (int at = 0; at < 3; at++) {
            Caller x = Caller.of("SEEN of wide numbers, at " + at, TWO);
            x.due("row 0 3 3 = 0", "row 1 2 3 = 0");
            long[] wides = {1L << 32, (1L << 32) + 1, -(1L << 32), 1L << 33, 1L << 56, Long.MIN_VALUE, Long.MAX_VALUE};
            for (long wide : wides) {
                x.due("write 0 " + at + " " + wide + " = 0", "fits 0 = -2", "laws 0 = -2", "may 0 0 = -2");
            }
            x.due("write 0 " + at + " 0 = 0", "fits 0 = 2", "write 1 " + at + " 65536 = 0", "fits 1 = -2",
                    "write 1 " + at + " MIN = 0", "fits 1 = 2", "write 1 " + at + " MAX = 0", "fits 1 = -2",
                    "write 1 " + at + " 2147483648 = 0", "fits 1 = -2");
        }
    }

    /** 53: "how many LOOKS fit": all, one, none; at STEP 0, at the last; what can't be at once. */
    private static void seenFits() {
        Caller all = Caller.of("all LOOKS fit", "race steps 20 law 0 goal 60 odds 0;" + "boat at 1 needs 9;".repeat(5)
                + "watcher eyes 1 sees 0 to 4 on 4;".repeat(5));
        all.due("row 0 0 0 = 0", "fits 0 = 3125", "may 0 0..4 = 31", "ask 0 = 0", "leaves 0 = 625");
        all.row(1, 4, 0, 1, 0, 20, 1);
        all.due("fits 1 = 3125", "laws 1 = 15", "write 1 2 0 = 0", "fits 1 = 0", "ask 1 = -1", "leaves 1 = 0",
                "may 1 4 = 0");
        Caller x = Caller.of("the last STEP alone tells", TWO);
        x.row(0, 0, 2, 2);
        x.row(1, 0, 2, 0);
        x.row(2, 0, 2, 1);
        x.due("fits 0..2 = 1 1 0", "may 0..2 0 = 1 2 0", "leaves 0..2 = 1 1 0", "ask 0..2 = -1", "laws 0..2 = 3 0 12");
        x.row(3, 0, 1, 1, 1, 1, 1);
        x.due("fits 3 = 0", "laws 3 = 0", "row 3 0 6 = 0", "fits 3 = 2");
        Caller home = Caller.of("the start, goal at most", RACE.replace("goal 60", "goal 4") + "boat at 30 needs 1;");
        home.row(0, 0, 0, 4);
        home.row(1, 0, 0, 30);
        home.due("fits 0..1 = 1 0", "laws 0..1 = 15 0");
    }

    /** VI: LOOKS as the RACE and acts are now. */
    private static void seenAnew() {
        Caller x = Caller.of("SEEN anew", TWO);
        x.row(0, 0, 1, 1);
        x.row(1, 1, 1, 1);
        x.due("fits 0 = 1", "fits 1 = 1", "look 0 1 0 = 0", "fits 0 = 0", "fits 1 = 2", "may 1 0 = 3",
                "laws 0..1 = 0 15");
        x.due("image 0 = 0", "undo = 0", "fits 1 = 1", "may 1 0 = 2", "back 0 = 0", "fits 1 = 2", "sneeze 0 0 = 1",
                "fits 1 = 0", "laws 1 = 0", "anew = 2", "fits 1 = 1", "rate 1 2 = 1", "fits 1 = 0", "fits 0 = 1");
        x.feed(TWO.replace("on 0", "on 1"));
        x.due("race = 4", "fits 0..1 = 1", "laws 0..1 = 0 15", "write 0 2 0 = 0", "fits 0 = 1", "may 0 0 = 2",
                "paste 1 0 0 0 1 = 0", "fits 0 = 1", "may 0 0 = 1", "row 0 0 0 = 0", "fits 0 = 2");
        x.feed("@");
        x.due("fits 1 = 1", "race = -4", "fits 1 = 1", "fits 0 = 2");
    }

    /** 54: "BOATS at which a WATCHER LOOKS by these, as bits." */
    private static void mayAndBits() {
        Caller x = Caller.of("may", THREE);
        x.row(0, 4, 1, 1);
        x.row(1, 2, 1, 1);
        x.row(2, 0, 1, 3);
        x.row(3, 0, 1, 2);
        // BOAT 2 at 1: WATCHER 1 or WATCHER 2 LOOKS at it, not both: 2 * (1 * 4 + 2 * 1). BOAT 0 at 2: not all three.
        x.due("fits 0..3 = 6 12 1 7", "may 0 0..3 = 3 7 16 -2", "may 1 0..2 = 3 7 31", "may 2 0..2 = 1",
                "may 3 0..2 = 3 7 31", "may 0 -1 = -2");
    }

    /** 55, 56: "leaves fewest of these at worst", "the first of several". */
    private static void askAndLeaves() {
        Caller all = Caller.of("ask of all", THREE);
        all.due("row 0 0 0 = 0", "fits 0 = 30", "ask 0 = 2", "leaves 0 = 6");
        all.row(1, 4, 1, 1);
        // 2 * 3 are left: of WATCHER 0 three at worst, of 1 two, of 2 all six.
        all.due("ask 1 = 1", "leaves 1 = 2");
        all.row(2, 4, 1, 1, 2, 1, 1);
        all.due("fits 2 = 2", "ask 2 = 0", "leaves 2 = 1");
        Caller several = Caller.of("ask the first of several", RACE + "boat at 0 needs 1;".repeat(2)
                + "watcher eyes 1 sees 0 to 0 on 0;" + "watcher eyes 1 sees 0 to 1 on 0;".repeat(4));
        several.due("row 0 0 0 = 0", "fits 0 = 16", "ask 0 = 1", "leaves 0 = 8");
        several.row(1, 1, 1, 3);
        // Three of four on BOAT 1, or all four: each of them is on it by four of the five LOOKS.
        several.due("fits 1 = 5", "ask 1 = 1", "leaves 1 = 4");
    }

    /** 55: "if fewer than now .. NONE: none"; 56: "(as now without)". */
    private static void askIfFewer() {
        Caller one = Caller.of("ask where one fits", THREE);
        one.row(0, 0, 1, 3);
        one.row(1, 0, 1, 3, 0, 1, 0);
        one.due("fits 0..1 = 1 0", "ask 0..1 = -1", "leaves 0..1 = 1 0");
        Caller alone = Caller.of("ask where each sees one", RACE + "boat at 0 needs 1;".repeat(5)
                + "watcher eyes 1 sees 4 to 4 on 4;".repeat(5));
        alone.due("row 0 0 0 = 0", "fits 0 = 1", "ask 0 = -1", "leaves 0 = 1");
        Caller last = Caller.of("ask the last of five", RACE + "boat at 0 needs 1;".repeat(5)
                + "watcher eyes 1 sees 4 to 4 on 4;".repeat(4) + "watcher eyes 1 sees 3 to 4 on 4;");
        last.due("row 0 0 0 = 0", "fits 0 = 2", "ask 0 = 4", "leaves 0 = 1", "look 4 0 0 = 4", "fits 0 = 2",
                "ask 0 = 4");
    }

    /** 57: "LAWS (0 .. 3) by which it is so, WATCHERS LOOKING as told, as bits." */
    private static void lawsAsTold() {
        // By LAWS 0 and 1 she stays at BOAT 0, by 2 and 3 she turns at each STEP.
        Caller last = Caller.of("laws at the last of twenty STEPS", TWO.replace("steps 2", "steps 20"));
        last.row(0, 0, 20, 20);
        last.row(1, 0, 20, 10);
        last.row(2, 1, 20, 10, 0, 19, 10);
        last.row(3, 1, 20, 0);
        last.due("laws 0..3 = 3 12 12 3", "fits 0..3 = 1 0 0 1");
        // By LAW 0 she stays at 1, by 1 and 3 she turns to 2 (the last she sees), by 2 to 0.
        String race = "race steps 2 law # goal 60 odds 0; boat at 0 needs 1; boat at 0 needs 1; boat at 5 needs 1;"
                + "watcher eyes 1 sees 0 to 2 on 1;";
        for (int law = 0; law < 4; law++) {
            Caller x = Caller.of("laws, told " + law, race.replace("#", String.valueOf(law)));
            x.row(0, 1, 2, 2);
            x.row(1, 0, 2, 1);
            x.row(2, 2, 2, 6);
            x.row(3, 2, 2, 7);
            x.due("laws 0..3 = 1 4 10 0", "laws 4 = -2", "count 1 = " + law);
            x.due("row 3 0 0 = 0", "laws 3 = 15", "look 0 0 0 = 1", "laws 0..2 = 0 14 2",
                    "look 0 2 2 = " + new int[] {0, 2, 0, 2}[law], "laws 0..2 = 0 14 2", "anew = 2",
                    "laws 0..2 = 1 4 10");
        }
    }
}
