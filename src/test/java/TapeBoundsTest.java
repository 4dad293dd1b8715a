import java.util.ArrayList;
import java.util.List;

/** The bounds of the TAPE and of the texts on it (term I, promises 1 to 5), sentence by sentence. */
public final class TapeBoundsTest {
    private static final String RACE = "race steps 1 law 0 goal 1 odds 0;";
    private static final String BOAT = "boat at 0 needs 1;";
    private static final String WATCHER = "watcher eyes 1 sees 0 to 0 on 0;";
    private static final String SHOW = "show 1 at 0;";
    /** All that is at its most; what stays where a text has a FAULT. */
    private static final String BEFORE = "race steps 20 law 3 goal 60 odds 10;";
    private static final String BLANKS = " ".repeat(600);
    private static final String FULL_TAPE = "the whole TAPE";

    private TapeBoundsTest() {
    }

    public static void main(String[] args) {
        feedTakesSixHundred();
        feedTakesTheHighestByteFirst();
        endCutsWhatThereIs();
        endIsFollowedByWhatComes();
        raceTakesTheWholeTape();
        raceInPlaceOfAnother();
        raceOfNothing();
        faultKeepsAllElse();
        faultIsOfTheLatest();
        numbersOfTheRace();
        numbersOfItsLines();
        boatsToldAhead();
        zerosAhead();
        blanksAndTokens();
        tokensThatCantStand();
        raceIsTheFirstLine();
        firstFaultByItsPlace();
        leastFaultOfOnePlace();
        fiveOfAKind();
        Check.finish("TapeBoundsTest");
    }

    private static void taken(String text, int lines) {
        Caller x = new Caller("taken: " + shown(text));
        x.feed(text);
        x.due("race = " + lines, "fault 0..1 = 0 -1", "count 8 = " + lines, "count 9 = 0");
    }

    private static void refused(String text, int fault, int place) {
        Caller x = Caller.of("refused: " + shown(text), BEFORE);
        x.feed(text);
        x.due("race = -4", "fault 0..1 = " + fault + " " + place, "count 0..3 = 20 3 60 10", "count 8 = 1",
                "count 9 = 0");
    }

    private static String shown(String text) {
        return text.length() > 200 ? text.substring(0, 100) + ".. (" + text.length() + ")" : text;
    }

    /** 2: "NONE, and none come, if it would have more than 600." */
    private static void feedTakesSixHundred() {
        Caller x = new Caller("feed");
        for (int bytes = 20; bytes <= 600; bytes += 20) {
            x.due("feed 0 0 0 0 0 = " + bytes);
        }
        x.due("feed 0 0 0 0 0 = -1", "count 9 = 600");
        x.due("end 581 = 581", "feed 0 0 0 0 0 = -1", "count 9 = 581");
        x.due("end 580 = 580", "feed 0 0 0 0 0 = 600", "feed 0 0 0 0 0 = -1", "count 9 = 600");
        x.due("end 579 = 579", "feed 0 0 0 0 0 = 599", "feed 0 0 0 0 0 = -1", "count 9 = 599");
        x.due("end 0 = 0", "feed MIN -1 0 1 MAX = 20", "count 9 = 20");
        Caller y = new Caller("feed, none come");
        y.feed((RACE + BLANKS).substring(0, 600));
        y.due("feed 0 0 0 0 0 = -1", "race = 1");
    }

    /** 2: "four of each number, the highest first". */
    private static void feedTakesTheHighestByteFirst() {
        Caller x = new Caller("feed, in order");
        // "race steps 1 law 0 g", "oal 7 odds 0;       "
        x.due("feed 1918985061 544437349 1886593073 543973751 540024935 = 20");
        x.due("feed 1868655648 924872548 1685266480 991961120 538976288 = 40");
        x.due("race = 1", "count 2 = 7");
        for (int i = 0; i < 20; i++) {
            StringBuilder text = new StringBuilder(BLANKS.substring(0, 20));
            text.setCharAt(i, (char) 255);
            refused(text.toString(), 1, i);
        }
        Caller y = new Caller("feed, a number below 0");
        y.due("feed 538976288 -2145378272 0 0 0 = 20", "race = -4", "fault 0..1 = 1 4");
        Caller z = new Caller("feed, the lowest byte");
        z.due("feed 538976288 538976511 0 0 0 = 20", "race = -4", "fault 0..1 = 1 7");
    }

    /** 3: "n; NONE, and nothing happens, if it has not so many, or n is below 0." */
    private static void endCutsWhatThereIs() {
        Caller x = new Caller("end");
        x.due("end 0 = 0", "end 1 = -1", "end -1 = -1", "end MIN = -1", "end MAX = -1", "count 9 = 0");
        x.due("feed 0 0 0 0 0 = 20", "end 21 = -1", "end -1 = -1", "end MIN = -1", "end MAX = -1", "count 9 = 20");
        x.due("end 20 = 20", "count 9 = 20", "end 19 = 19", "count 9 = 19", "end 20 = -1", "count 9 = 19");
        x.due("end 1 = 1", "end 0 = 0", "count 9 = 0");
        Caller y = new Caller("end, nothing happens");
        y.feed(RACE);
        y.due("end 34 = -1", "end -1 = -1", "race = 1");
        Caller full = new Caller("end of a full TAPE");
        full.feed((RACE + BLANKS).substring(0, 600));
        full.due("end 601 = -1", "count 9 = 600", "end 600 = 600", "count 9 = 600", "end 599 = 599", "count 9 = 599");
    }

    /** 3: "The TAPE has its first n bytes alone". */
    private static void endIsFollowedByWhatComes() {
        String text = RACE + BOAT + "boat";
        for (int n = 0; n <= text.length(); n++) {
            Caller x = new Caller("end " + n + " of " + text);
            x.feed(text);
            x.due("end " + n + " = " + n, "race = " + linesOf(n));
            x.due("fault 1 = " + (linesOf(n) < 0 ? placeOf(text, n) : -1));
        }
        Caller y = new Caller("end, and more comes");
        y.feed("race steps 1@@@@@@@@");
        y.due("end 12 = 12", feedOf("9 law 2 goal 1 odds ") + " = 32", feedOf("4;                  ") + " = 52");
        y.due("race = 1", "count 0..3 = 19 2 1 4");
    }

    /** The call by which twenty bytes come. */
    private static String feedOf(String text) {
        StringBuilder call = new StringBuilder("feed");
        for (int i = 0; i < 20; i += 4) {
            int number = 0;
            for (int k = 0; k < 4; k++) {
                number = number * 256 + text.charAt(i + k);
            }
            call.append(' ').append(number);
        }
        return call.toString();
    }

    /** The end, or the first byte of a word that is cut. */
    private static int placeOf(String text, int n) {
        int place = n;
        if (n < text.length() && Character.isLetter(text.charAt(n))) {
            while (place > 0 && Character.isLetter(text.charAt(place - 1))) {
                place--;
            }
        }
        return place;
    }

    private static int linesOf(int n) {
        if (n == 0) {
            return 0;
        }
        return n == RACE.length() ? 1 : n == RACE.length() + BOAT.length() ? 2 : -4;
    }

    /** I and 4, 5: a TAPE of 600 bytes is read to its last one. */
    private static void raceTakesTheWholeTape() {
        String ahead = BLANKS.substring(0, 567);
        taken(ahead + RACE, 1);
        taken((RACE + BLANKS).substring(0, 600), 1);
        taken(BLANKS, 0);
        taken("\n".repeat(600), 0);
        String open = ahead + RACE.substring(0, 32);
        refused(open + "@", 1, 599);
        refused(open + " ", 1, 600);
        refused(open, 1, 599);
        refused(open + "9", 1, 600);
        refused("race steps " + "9".repeat(589), 2, 11);
        refused("race steps " + "0".repeat(588) + "7", 1, 600);
        refused("race steps " + "0".repeat(589), 2, 11);
        refused("z".repeat(600), 1, 0);
        refused(";".repeat(600), 1, 0);
        Caller x = Caller.of(FULL_TAPE, (RACE + BLANKS).substring(0, 600));
        x.due("count 9 = 0", "feed 0 0 0 0 0 = 20", "end 0 = 0");
        x.feed((RACE + BLANKS).substring(0, 600));
        x.due("count 9 = 600", "race = 1");
    }

    /** 4: "(in place of another), nothing done: how many LINES". */
    private static void raceInPlaceOfAnother() {
        Caller x = Caller.of("race in place of another", RACE + BOAT.repeat(5) + WATCHER.repeat(5) + SHOW.repeat(5));
        x.due("count 4..8 = 5 5 5 0 16", "look 0 1 0 = 0", "sneeze 1 0 = 0", "count 7 = 2");
        x.feed(BEFORE + "boat at 7 needs 9;");
        x.due("race = 2", "count 0..9 = 20 3 60 10 1 0 0 0 2 0", "boat 0 0..1 = 7 9", "boat 1 0 = -2");
        x.due("watcher 0 0 = -2", "show 0 0 = -2", "undo = -5", "anew = 0", "place 0 0..20 = 7", "on 0 0 = -2");
        x.feed(RACE + BOAT + WATCHER);
        x.due("race = 3", "on 0 0 = 0", "awake 0 = 1", "place 0 0..1 = 0 1", "rate 0 2 = 1", "place 0 1 = 0");
        x.feed(RACE + BOAT + WATCHER);
        x.due("race = 3", "boat 0 1 = 1", "place 0 1 = 1");
    }

    /** 4: "(0: there is none then)". */
    private static void raceOfNothing() {
        Caller x = new Caller("race of nothing");
        x.due("race = 0", "wins = -2", "count 0..10 = 0", "fault 0..1 = 0 -1");
        x.feed(RACE + BOAT + WATCHER + SHOW);
        x.due("race = 4", "look 0 0 0 = 0", "race = 0", "wins = -2", "count 0..10 = 0", "place 0 0 = -2", "undo = -2");
        x.feed(RACE + BOAT);
        x.due("race = 2", "count 7 = 0", "wins = -1");
        x.feed(" \n");
        x.due("race = 0", "wins = -2", "fault 0..1 = 0 -1", "count 9 = 0");
        x.feed("\n");
        x.due("end 0 = 0", "race = 0");
        taken(" ", 0);
        refused(";", 1, 0);
    }

    /** 4: "-4: a FAULT (the TAPE is empty, all else stays)." */
    private static void faultKeepsAllElse() {
        Caller x = Caller.of("a FAULT keeps all else", RACE + BOAT + BOAT + "watcher eyes 1 sees 0 to 1 on 0;" + SHOW);
        x.row(3, 0, 0, 0);
        x.due("image 1 = 0", "look 0 1 1 = 0", "sneeze 0 0 = 0");
        x.feed(BEFORE + BOAT.repeat(3) + WATCHER.repeat(2) + SHOW + "show 10 at 1;");
        x.due("race = -4", "count 0..10 = 1 0 1 0 2 1 1 2 5 0 1", "on 0 0..1 = 0 1", "boat 1 0..1 = 0 1",
                "boat 2 0 = -2", "watcher 0 0..3 = 1 0 1 0", "show 0 0..1 = 1 0", "fits 3 = 2", "undo = 1",
                "undo = 0", "on 0 0..1 = 0", "back 1 = 0", "back 0 = -6", "race = 0", "wins = -2");
        Caller none = new Caller("a FAULT where there is none");
        none.feed(RACE + "@");
        none.due("race = -4", "wins = -2", "count 0..10 = 0", "fault 0..1 = 1 33");
    }

    /** 5: "Of the latest race() .. (NONE without). NONE for another what, and ahead of any (what 1)." */
    private static void faultIsOfTheLatest() {
        Caller x = new Caller("fault");
        x.due("fault 0..1 = 0 -1", "fault 2..9 = -1", "fault -1 = -1", "fault MIN = -1", "fault MAX = -1");
        x.feed("@");
        x.due("fault 0..1 = 0 -1", "race = -4", "fault 0..1 = 1 0", "fault 2..9 = -1", "fault -1 = -1",
                "fault MIN = -1", "fault MAX = -1");
        x.feed(RACE + "boat at 31");
        x.due("fault 0..1 = 1 0", "race = -4", "fault 0..1 = 2 41", "end 0 = 0", "fault 0..1 = 2 41");
        x.feed(RACE);
        x.due("image 0 = 0", "back 0 = 0", "fault 0..1 = 2 41", "race = 1", "fault 0..1 = 0 -1", "fault 2 = -1");
        x.feed(RACE + SHOW.repeat(6));
        x.due("race = -4", "fault 0..1 = 3 93", "race = 0", "fault 0..1 = 0 -1");
    }

    private static void number(String template, int low, int high, String asked) {
        int place = template.indexOf('#');
        int lines = (int) template.chars().filter(sign -> sign == ';').count();
        for (int n = low; n <= high; n++) {
            Caller x = Caller.of("number in " + template, template.replace("#", String.valueOf(n)));
            x.due(asked + " = " + n, "count 8 = " + lines, "fault 0..1 = 0 -1");
        }
        if (low > 0) {
            refused(template.replace("#", String.valueOf(low - 1)), 2, place);
            refused(template.replace("#", "000"), 2, place);
        }
        refused(template.replace("#", String.valueOf(high + 1)), 2, place);
        refused(template.replace("#", "-1"), 1, place);
        String[] wholes = {"2147483648", "4294967296", "18446744073709551616", "1" + "0".repeat(40)};
        for (String whole : wholes) {
            String end = String.valueOf(low);
            refused(template.replace("#", whole), 2, place);
            refused(template.replace("#", whole.substring(0, whole.length() - end.length()) + end), 2, place);
        }
        refused(template.replace("#", "4294967297"), 2, place);
    }

    /** I: "steps 1 .. 20, law 0 .. 3, goal 1 .. 60, odds 0 .. 10." */
    private static void numbersOfTheRace() {
        number("race steps # law 0 goal 1 odds 0;", 1, 20, "count 0");
        number("race steps 1 law # goal 1 odds 0;", 0, 3, "count 1");
        number("race steps 1 law 0 goal # odds 0;", 1, 60, "count 2");
        number("race steps 1 law 0 goal 1 odds #;", 0, 10, "count 3");
    }

    /** I: "boat: at 0 .. 30, needs 1 .. 9. watcher: eyes 1 .. 9, .. show: its lure 1 .. 9, at 0 .. 19." */
    private static void numbersOfItsLines() {
        String boats = RACE + BOAT.repeat(4);
        number(RACE + "boat at # needs 1;", 0, 30, "boat 0 0");
        number(RACE + "boat at 0 needs #;", 1, 9, "boat 0 1");
        number(boats + "boat at # needs 1;", 0, 30, "boat 4 0");
        number(boats + "boat at 0 needs #;", 1, 9, "boat 4 1");
        number(boats + "watcher eyes # sees 0 to 0 on 0;", 1, 9, "watcher 0 0");
        number(boats + "watcher eyes 1 sees # to 3 on 3;", 0, 3, "watcher 0 1");
        number(boats + "watcher eyes 1 sees 1 to # on 1;", 1, 3, "watcher 0 2");
        number(boats + "watcher eyes 1 sees 3 to # on 3;", 3, 3, "watcher 0 2");
        number(boats + "watcher eyes 1 sees 1 to 2 on #;", 1, 2, "watcher 0 3");
        number(boats + "watcher eyes 1 sees 0 to 3 on #;", 0, 3, "watcher 0 3");
        number(boats + "watcher eyes 1 sees 2 to 2 on #;", 2, 2, "watcher 0 3");
        number(boats + BOAT + "watcher eyes 1 sees # to 4 on 4;", 0, 4, "watcher 0 1");
        number(boats + BOAT + "watcher eyes 1 sees 0 to # on 0;", 0, 4, "watcher 0 2");
        number(boats + BOAT + "watcher eyes 1 sees 0 to 4 on #;", 0, 4, "watcher 0 3");
        number(boats + WATCHER.repeat(4) + "watcher eyes # sees 0 to 0 on 0;", 1, 9, "watcher 4 0");
        number(RACE + "show # at 0;", 1, 9, "show 0 0");
        number(RACE + "show 1 at #;", 0, 19, "show 0 1");
        number(RACE + SHOW.repeat(4) + "show # at 0;", 1, 9, "show 4 0");
        number(RACE + SHOW.repeat(4) + "show 1 at #;", 0, 19, "show 4 1");
    }

    /** I: "the BOATS from one told ahead to one told ahead (no less), on one of these." */
    private static void boatsToldAhead() {
        refused(RACE + "watcher eyes 1 sees 0 to 0 on 0;", 2, 53);
        refused(RACE + WATCHER + BOAT, 2, 53);
        taken(RACE + BOAT + WATCHER, 3);
        refused(RACE + BOAT + "watcher eyes 1 sees 1 to 1 on 1;" + BOAT, 2, 71);
        refused(RACE + BOAT + "watcher eyes 1 sees 0 to 1 on 0;" + BOAT, 2, 76);
        taken(RACE + BOAT + WATCHER + BOAT + "watcher eyes 1 sees 1 to 1 on 1;", 5);
        refused(RACE + BOAT + BOAT + "watcher eyes 1 sees 1 to 0 on 0;", 2, 94);
        refused(RACE + BOAT + BOAT + "watcher eyes 1 sees 1 to 0 on 1;", 2, 94);
        Caller x = Caller.of("boats told ahead", BEFORE);
        x.feed(RACE + BOAT.repeat(5));
        x.due("race = 6");
        x.feed(RACE + BOAT + "watcher eyes 1 sees 4 to 4 on 4;");
        x.due("race = -4", "fault 0..1 = 2 71");
    }

    /** I: "numbers (digits)": zeros ahead tell no other number. */
    private static void zerosAhead() {
        taken("race steps 00000000000000000020 law 03 goal 0060 odds 010;", 1);
        taken("race steps 01 law 00 goal 001 odds 000;" + "boat at 000 needs 0009;show 01 at 0019;", 3);
        refused("race steps 0021", 2, 11);
        refused("race steps 00", 2, 11);
        Caller x = Caller.of("zeros ahead", "race steps 00000000000000000020 law 03 goal 0060 odds 010;");
        x.due("count 0..3 = 20 3 60 10");
    }

    /** I: "TOKENS, blanks (32, 10) aside, the longest: words (a .. z), numbers (digits), the sign ;" */
    private static void blanksAndTokens() {
        for (int sign = 0; sign < 256; sign++) {
            String one = String.valueOf((char) sign);
            boolean blank = sign == 32 || sign == 10;
            boolean letter = sign >= 97 && sign <= 122;
            boolean digit = sign >= 48 && sign <= 57;
            String alone = RACE + " " + one + " " + BOAT;
            String behindWord = RACE + "boat" + one + "at 0 needs 1;";
            String behindNumber = RACE + "boat at 0 needs 1" + one + ";";
            String behindLine = RACE.substring(0, 32) + one;
            if (blank) {
                taken(alone, 2);
                taken(behindWord, 2);
                taken(behindNumber, 2);
                refused(behindLine, 1, 33);
                taken(one, 0);
                continue;
            }
            refused(alone, 1, 34);
            refused(behindWord, 1, letter ? 33 : 37);
            refused(behindNumber, digit ? 2 : 1, digit ? 49 : sign == ';' ? 51 : 50);
            if (sign == ';') {
                taken(behindLine, 1);
            } else {
                refused(behindLine, 1, digit ? 33 : 32);
            }
            refused(one, 1, 0);
        }
        taken("race steps1law0goal1odds0;boat\nat0needs1;watcher eyes1sees0to0on0;show1at0;", 4);
        taken("\n\n race \n steps\n1 law 0\n\n goal 1 odds 0 \n;\n", 1);
        refused("racesteps 1 law 0 goal 1 odds 0;", 1, 0);
        refused("race steps 1law 0 goalone", 1, 18);
        refused("race steps 1 0 law 0", 1, 13);
    }

    /** I: "1 a TOKEN that is none, or can't stand there": each TOKEN of each LINE. */
    private static void tokensThatCantStand() {
        everyToken("", "race steps 1 law 0 goal 1 odds 0 ;");
        everyToken(RACE, "boat at 0 needs 1 ;");
        everyToken(RACE + BOAT, "watcher eyes 1 sees 0 to 0 on 0 ;");
        everyToken(RACE, "show 1 at 0 ;");
        everyToken(RACE + BOAT.repeat(4) + WATCHER.repeat(4) + SHOW.repeat(4), "boat at 0 needs 1 ;");
        everyToken(RACE + BOAT.repeat(5) + WATCHER.repeat(4) + SHOW.repeat(5), "watcher eyes 1 sees 0 to 0 on 0 ;");
        everyToken(RACE + BOAT.repeat(5) + WATCHER.repeat(5) + SHOW.repeat(4), "show 1 at 0 ;");
    }

    private static void everyToken(String before, String line) {
        String[] tokens = line.split(" ");
        StringBuilder ahead = new StringBuilder(before);
        for (String token : tokens) {
            String rest = line.substring(ahead.length() - before.length() + token.length());
            int place = ahead.length();
            if (place > before.length()) {
                refused(ahead.toString(), 1, place);
                refused(ahead + "\n", 1, place + 1);
            }
            for (String other : othersThan(token)) {
                if (!other.equals(token)) {
                    refused(ahead + other + rest, 1, place);
                    refused(ahead + other, 1, place);
                }
            }
            refused(ahead + token + " " + token + rest, 1, place + token.length() + 1);
            ahead.append(token).append(' ');
        }
    }

    private static String[] othersThan(String token) {
        if (token.equals(";")) {
            return new String[] {":", "<", ".", ",", "x", "7", "race", "boat", "\u00bb"};
        }
        if (Character.isDigit(token.charAt(0))) {
            return new String[] {"x", "-1", "+1", ".5", ";", "race", "at", "O", "/", ":"};
        }
        String less = token.substring(0, token.length() - 1);
        char last = token.endsWith("a") ? 'b' : 'a';
        List<String> others = new ArrayList<>(List.of(less, less + last, token + "a", token + token, "a" + token,
                token.substring(1), "zz", "7", "99", ";", "@", token.toUpperCase(),
                token.substring(0, 1).toUpperCase() + token.substring(1),
                less + token.substring(token.length() - 1).toUpperCase(), "race"));
        for (int i = 0; i < token.length(); i++) {
            others.add(token.substring(0, i) + "q" + token.substring(i + 1));
        }
        return others.toArray(new String[0]);
    }

    /** I: "race is the first LINE and no other" and "(race behind the first LINE, another word ahead of it)". */
    private static void raceIsTheFirstLine() {
        refused(RACE + RACE, 1, 33);
        refused(RACE + BOAT + RACE, 1, 51);
        refused(BOAT, 1, 0);
        refused(BOAT + RACE, 1, 0);
        refused(SHOW + RACE, 1, 0);
        refused(WATCHER + RACE, 1, 0);
        refused("\n" + SHOW + RACE, 1, 1);
        refused("7 " + RACE, 1, 0);
        refused("; " + RACE, 1, 0);
        refused("steps 1 law 0 goal 1 odds 0;", 1, 0);
        taken(RACE, 1);
    }

    /** I: "the first by its place (a TOKEN's first byte; the end's)". */
    private static void firstFaultByItsPlace() {
        refused("race steps 21 law 9 @", 2, 11);
        refused("race steps @ law 9", 1, 11);
        refused(RACE + "boat at 31 needs 10; @", 2, 41);
        refused(RACE + "boat at 30 needs 10; @", 2, 50);
        refused(RACE + "boat at 30 needs 1; @ show 0", 1, 53);
        refused(RACE + "  boat   at   needs", 1, 47);
        refused(RACE + SHOW.repeat(5) + "boat at 77; show", 2, 101);
        refused(RACE + SHOW.repeat(5) + SHOW + "boat at 77;", 3, 93);
        refused(RACE + SHOW.repeat(5) + "@" + SHOW, 1, 93);
        refused("race", 1, 4);
        refused("race   ", 1, 7);
        refused("race\n\n", 1, 6);
        refused(RACE + "\n  boat at 0 needs 1", 1, 53);
        refused(RACE + "\n  boat at 0 needs 1\n", 1, 54);
    }

    /** I: "of one place the least". */
    private static void leastFaultOfOnePlace() {
        String five = RACE + BOAT.repeat(5);
        refused(RACE + "boat 99", 1, 38);
        refused(RACE + "99", 1, 33);
        refused("race 99", 1, 5);
        refused(five + "watcher boat", 1, 131);
        refused(five + "show boat", 1, 128);
        refused(five + "show 1 at 0 boat", 1, 135);
        refused(RACE + SHOW.repeat(5) + "boat show", 1, 98);
        refused(five + WATCHER.repeat(5) + "show watcher", 1, 288);
    }

    /** I: "3 a 6th boat, 6th watcher, 6th show, at its word." */
    private static void fiveOfAKind() {
        String all = RACE + BOAT.repeat(5) + WATCHER.repeat(5) + SHOW.repeat(5);
        taken(all, 16);
        sixth(RACE, BOAT, "boat");
        sixth(RACE + BOAT, WATCHER, "watcher");
        sixth(RACE, SHOW, "show");
        refused(all + BOAT, 3, all.length());
        refused(all + " " + WATCHER, 3, all.length() + 1);
        refused(all + "\n\n" + SHOW, 3, all.length() + 2);
        refused(all + "boats", 1, all.length());
        String apart = RACE + (BOAT + SHOW).repeat(5);
        taken(apart, 11);
        refused(apart + BOAT, 3, apart.length());
        refused(apart + SHOW, 3, apart.length());
        Caller x = Caller.of("five of a kind", all);
        x.due("boat 0..4 1 = 1", "watcher 0..4 0 = 1", "show 0..4 0 = 1", "boat 5 1 = -2", "watcher 5 0 = -2",
                "show 5 0 = -2", "count 4..6 = 5");
    }

    private static void sixth(String ahead, String line, String word) {
        int lines = (int) ahead.chars().filter(sign -> sign == ';').count();
        for (int n = 1; n <= 5; n++) {
            taken(ahead + line.repeat(n), lines + n);
        }
        String five = ahead + line.repeat(5);
        refused(five + line, 3, five.length());
        refused(five + line + line, 3, five.length());
        refused(five + word, 3, five.length());
        refused(five + word + ";", 3, five.length());
        refused(five + word + "@", 3, five.length());
        refused(five + word + " 77", 3, five.length());
        refused(five + "  " + word, 3, five.length() + 2);
        refused(five + word + "s", 1, five.length());
    }
}
