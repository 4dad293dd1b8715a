import java.util.ArrayList;
import java.util.List;
import java.util.Random;
import java.util.regex.Matcher;
import java.util.regex.Pattern;

/** Texts spoilt by chance (of fixed seeds): LINES and FAULTS against a second reader, by patterns. */
public final class ReadingTest {
    private static final Pattern TOKEN = Pattern.compile("[a-z]+|[0-9]+|;|[^ \\n]", Pattern.DOTALL);
    private static final String[] PIECES = {"race", "boat", "watcher", "show", "at", "needs", "eyes", "sees", "to",
        "on", "steps", "law", "goal", "odds", ";", "0", "1", "4", "5", "9", "10", "31", "61", "x", "@", "\t", "\u00e9",
        "A", "boat at 0 needs 1;", "watcher eyes 1 sees 0 to 0 on 0;", "show 1 at 0;", " ", "\n", ""};

    private ReadingTest() {
    }

    public static void main(String[] args) {
        Random random = new Random(77);
        PennantLawn x = new PennantLawn();
        for (int i = 0; i < 20000; i++) {
            if (i % 12 == 0) {
                x = new PennantLawn();
            }
            String text = spoilt(random);
            String name = "text " + i + " «" + text + "»";
            int[] want = read(text);
            Check.due(name + " race", Check.race(x, text), want[0] > 0 ? -4 : want[2]);
            Check.due(name + " fault", x.fault(0), want[0]);
            Check.due(name + " place", x.fault(1), want[1]);
        }
        Check.finish("ReadingTest");
    }

    private static String valid(Random random) {
        StringBuilder text = new StringBuilder("race steps 7 law 1 goal 20 odds 3;");
        int boats = 0;
        for (int i = random.nextInt(12); i > 0; i--) {
            int kind = random.nextInt(3);
            if (kind == 0 || kind == 1 && boats == 0) {
                text.append("boat at " + random.nextInt(32) + " needs " + random.nextInt(11) + ";");
                boats++;
            } else if (kind == 1) {
                text.append("watcher eyes " + random.nextInt(11) + " sees " + random.nextInt(boats) + " to "
                        + random.nextInt(boats + 1) + " on " + random.nextInt(boats) + ";");
            } else {
                text.append("show " + random.nextInt(11) + " at " + random.nextInt(21) + ";\n");
            }
        }
        return text.toString();
    }

    private static String spoilt(Random random) {
        String text = valid(random).replace("needs 0", "needs 3").replace("eyes 0", "eyes 3");
        for (int i = random.nextInt(3); i > 0; i--) {
            int from = random.nextInt(text.length() + 1);
            int to = Math.min(text.length(), from + random.nextInt(4));
            text = text.substring(0, from) + PIECES[random.nextInt(PIECES.length)] + text.substring(to);
        }
        if (random.nextInt(4) == 0) {
            text = text.substring(0, random.nextInt(text.length() + 1));
        }
        return text.substring(0, Math.min(600, text.length()));
    }

    /** FAULT, place, LINES. */
    private static int[] read(String text) {
        List<String> tokens = new ArrayList<>();
        List<Integer> places = new ArrayList<>();
        Matcher matcher = TOKEN.matcher(text);
        while (matcher.find()) {
            tokens.add(matcher.group());
            places.add(matcher.start());
        }
        places.add(text.length());
        int[] told = new int[3];
        int lines = 0;
        int i = 0;
        while (i < tokens.size()) {
            String[] form = form(tokens.get(i), lines);
            if (form == null) {
                return new int[] {1, places.get(i), 0};
            }
            int kind = List.of("boat", "watcher", "show").indexOf(tokens.get(i));
            if (kind >= 0 && told[kind] == 5) {
                return new int[] {3, places.get(i), 0};
            }
            for (int k = 0; k < form.length; k++, i++) {
                String token = i < tokens.size() ? tokens.get(i) : "";
                int fault = token(token, form[k], told[0], tokens, i);
                if (fault > 0) {
                    return new int[] {fault, places.get(i), 0};
                }
            }
            if (kind >= 0) {
                told[kind]++;
            }
            lines++;
        }
        return new int[] {0, -1, lines};
    }

    private static String[] form(String word, int lines) {
        if (lines == 0) {
            return word.equals("race") ? "race steps 1..20 law 0..3 goal 1..60 odds 0..10 ;".split(" ") : null;
        }
        switch (word) {
            case "boat":
                return "boat at 0..30 needs 1..9 ;".split(" ");
            case "watcher":
                return "watcher eyes 1..9 sees FIRST to LAST on ON ;".split(" ");
            case "show":
                return "show 1..9 at 0..19 ;".split(" ");
            default:
                return null;
        }
    }

    private static int token(String token, String form, int boats, List<String> tokens, int i) {
        boolean number = token.matches("[0-9]+");
        if (form.matches("[a-z;]+")) {
            return token.equals(form) ? 0 : 1;
        }
        if (!number) {
            return 1;
        }
        double value = Double.parseDouble(token);
        double from = 0;
        double to = boats - 1;
        if (form.contains("..")) {
            from = Double.parseDouble(form.split("\\.\\.")[0]);
            to = Double.parseDouble(form.split("\\.\\.")[1]);
        } else if (form.equals("LAST")) {
            from = Double.parseDouble(tokens.get(i - 2));
        } else if (form.equals("ON")) {
            from = Double.parseDouble(tokens.get(i - 4));
            to = Double.parseDouble(tokens.get(i - 2));
        }
        return value < from || value > to ? 2 : 0;
    }
}
