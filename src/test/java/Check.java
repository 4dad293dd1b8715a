import java.nio.charset.StandardCharsets;
import java.util.Arrays;

/** What the tests share: counting wrong answers, and telling a text to the program. */
final class Check {
    private static int asked = 0;
    private static int wrong = 0;

    private Check() {
    }

    static void due(String what, long got, long want) {
        asked++;
        if (got != want) {
            wrong++;
            if (wrong <= 40) {
                System.out.println(what + " answered " + got + ", due is " + want);
            }
        }
    }

    static void holds(String what, boolean truth) {
        due(what, truth ? 1 : 0, 1);
    }

    static boolean sound() {
        return wrong == 0;
    }

    static void finish(String name) {
        System.out.println(name + ": " + asked + " asked, " + wrong + " wrong");
        if (wrong != 0) {
            System.exit(1);
        }
    }

    /** The text lies on the TAPE, which is empty before; answers how many calls it took. */
    static int tell(PennantLawn lawn, byte[] text) {
        byte[] padded = Arrays.copyOf(text, (text.length + 19) / 20 * 20);
        for (int i = 0; i < padded.length; i += 20) {
            lawn.feed(number(padded, i), number(padded, i + 4), number(padded, i + 8),
                    number(padded, i + 12), number(padded, i + 16));
        }
        lawn.end(text.length);
        return padded.length / 20 + 1;
    }

    static int tell(PennantLawn lawn, String text) {
        return tell(lawn, text.getBytes(StandardCharsets.ISO_8859_1));
    }

    static int race(PennantLawn lawn, String text) {
        tell(lawn, text);
        return lawn.race();
    }

    static PennantLawn lawn(String text) {
        PennantLawn lawn = new PennantLawn();
        race(lawn, text);
        return lawn;
    }

    static void seen(PennantLawn lawn, int slot, int... numbers) {
        lawn.row(slot, 0, numbers.length);
        for (int i = 0; i < numbers.length; i++) {
            lawn.write(slot, i, numbers[i]);
        }
    }

    private static int number(byte[] bytes, int i) {
        return (bytes[i] & 255) << 24 | (bytes[i + 1] & 255) << 16 | (bytes[i + 2] & 255) << 8 | bytes[i + 3] & 255;
    }
}
