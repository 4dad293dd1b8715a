import java.util.ArrayList;
import java.util.List;

/**
 * For each call: the smallest and the largest number that is still taken as an argument, and the first
 * on either side that is refused, in RACES of several sizes; and what is refused changes nothing.
 */
public final class ArgumentBoundsTest {
    /*
     * B BOAT, W WATCHER, S SHOW, T STEP, E STEP ahead of the last, C such a STEP, 7 at most, L LAW,
     * P what of two, Q what of four, K SLOT, D seed, N how many RACES, R needs, M IMAGE.
     */
    private static final String[] CALLS = {"boat B P", "watcher W Q", "show S P", "place B T", "on W T", "eyes B E",
        "awake E", "lookers B T", "leads T", "lags T", "front B", "behind B T", "calm B", "home B", "gap B B T",
        "wavers W", "speed B E", "lacks B E", "total B", "fleet T", "gaze W", "unseen T", "seers B", "order B T",
        "even B B", "passes B B", "arrived T", "clear S", "handicap B", "start B", "by L", "ways B", "plan B W",
        "fewest B", "soonest B", "far B", "lure E", "fits K", "may K W", "ask K", "leaves K", "laws K", "share B W P",
        "rests W W", "rest W W", "chance B C P", "mean B C P", "look W B T", "sneeze W E", "drawn D P", "luck D N B",
        "rate B R", "image M", "back M"};
    private static final String WITHOUT_ARGUMENTS =
            "race drops wins changes faithful calmest key can spoils cover covers undo anew";
    /** Their bounds are not those of a RACE: TapeBoundsTest and SlotBoundsTest have them. */
    private static final String ELSEWHERE = "feed end fault count row write paste";

    private ArgumentBoundsTest() {
    }

    public static void main(String[] args) {
        everyCallIsHere();
        withoutARace(new Caller("a new object"));
        withoutARace(new Caller("a new object, again"));
        Caller gone = new Size(5, 5, 5, 20).caller("a RACE in place of which there is none");
        gone.due("look 0 0 0 = 0", "row 0..3 0 0 = 0", "race = 0");
        withoutARace(gone);
        for (Size size : new Size[] {new Size(5, 5, 5, 20), new Size(5, 4, 3, 9), new Size(4, 5, 2, 8),
            new Size(3, 2, 4, 7), new Size(2, 3, 1, 2), new Size(1, 1, 1, 1), new Size(1, 5, 0, 6)}) {
            for (String call : CALLS) {
                allArguments(size, call);
                refusedOnesChangeNothing(size, call);
            }
        }
        Check.finish("ArgumentBoundsTest");
    }

    private static void everyCallIsHere() {
        List<String> here = new ArrayList<>(List.of((WITHOUT_ARGUMENTS + " " + ELSEWHERE).split(" ")));
        for (String call : CALLS) {
            here.add(call.split(" ")[0]);
        }
        for (String name : Caller.methodNames()) {
            Check.holds(name + " has its bounds tested", here.remove(name));
        }
        Check.holds("no call besides: " + here, here.isEmpty());
    }

    /** 1: "No RACE." and 4: "(0: there is none then)": what asks for one is refused, whatever the arguments. */
    private static void withoutARace(Caller x) {
        for (String name : WITHOUT_ARGUMENTS.split(" ")) {
            x.due(name + " = " + (name.equals("race") ? 0 : -2));
        }
        for (String call : CALLS) {
            String[] kinds = call.split(" ");
            String asked = kinds[0];
            for (int i = 1; i < kinds.length; i++) {
                asked += kinds[i].equals("N") || kinds[i].equals("R") ? " 1" : " 0";
            }
            if (!kinds[kinds.length - 1].equals("M")) {
                x.due(asked + " = " + (kinds[0].equals("gap") ? -1000 : -2));
            }
        }
        x.due("count 0..8 = 0");
    }

    /** The ends of what is taken, the first beyond them, and the ends of all numbers. */
    private static long[] values(long[] ends) {
        return new long[] {ends[0], ends[1], ends[0] - 1, ends[1] + 1, Integer.MIN_VALUE, Integer.MAX_VALUE};
    }

    private static void allArguments(Size size, String call) {
        String[] kinds = call.split(" ");
        Caller x = size.caller(call);
        int[] at = new int[kinds.length];
        boolean more = true;
        while (more) {
            long[] arguments = new long[kinds.length];
            boolean taken = true;
            for (int i = 1; i < kinds.length; i++) {
                long[] ends = size.ends(kinds[i].charAt(0));
                arguments[i] = values(ends)[at[i]];
                taken &= ends[0] <= arguments[i] && arguments[i] <= ends[1];
            }
            boolean oneTwice = call.startsWith("rest") && arguments[1] == arguments[2];
            ask(x, kinds[0], arguments, taken && !oneTwice);
            more = next(at, 6);
        }
    }

    private static boolean next(int[] at, int n) {
        for (int i = at.length - 1; i > 0; i--) {
            at[i]++;
            if (at[i] < n) {
                return true;
            }
            at[i] = 0;
        }
        return false;
    }

    private static void ask(Caller x, String name, long[] arguments, boolean taken) {
        StringBuilder call = new StringBuilder(name);
        for (int i = 1; i < arguments.length; i++) {
            call.append(' ').append(arguments[i]);
        }
        long refusal = name.equals("gap") ? -1000 : -2;
        long answer = x.ask(call.toString());
        Check.due(call + " is taken", answer == refusal ? 0 : 1, taken ? 1 : 0);
        if (taken && (name.equals("look") || name.equals("sneeze"))) {
            x.due("undo = 0");
        }
    }

    private static void refusedOnesChangeNothing(Size size, String call) {
        String[] kinds = call.split(" ");
        Caller x = size.caller(call);
        Caller untouched = size.caller(call);
        for (int i = 1; i < kinds.length; i++) {
            for (int outside = 2; outside < 6; outside++) {
                for (int others = 0; others < 2; others++) {
                    long[] arguments = new long[kinds.length];
                    for (int k = 1; k < kinds.length; k++) {
                        arguments[k] = values(size.ends(kinds[k].charAt(0)))[k == i ? outside : others];
                    }
                    ask(x, kinds[0], arguments, false);
                }
            }
        }
        Check.holds(call + " changes nothing where it is refused", x.state().equals(untouched.state()));
    }

    private static final class Size {
        final int boats;
        final int watchers;
        final int shows;
        final int steps;

        Size(int boats, int watchers, int shows, int steps) {
            this.boats = boats;
            this.watchers = watchers;
            this.shows = shows;
            this.steps = steps;
        }

        long[] ends(char kind) {
            switch (kind) {
                case 'B':
                    return new long[] {0, boats - 1};
                case 'W':
                    return new long[] {0, watchers - 1};
                case 'S':
                    return new long[] {0, shows - 1};
                case 'T':
                    return new long[] {0, steps};
                case 'E':
                    return new long[] {0, steps - 1};
                case 'C':
                    return new long[] {0, Math.min(7, steps - 1)};
                case 'P':
                    return new long[] {0, 1};
                case 'L':
                case 'Q':
                case 'K':
                    return new long[] {0, 3};
                case 'D':
                    return new long[] {0, 2000000000};
                case 'N':
                    return new long[] {1, 20};
                case 'R':
                    return new long[] {1, 9};
                default:
                    return new long[] {0, 2};
            }
        }

        String text() {
            StringBuilder text = new StringBuilder("race steps " + steps + " law 1 goal 40 odds 4;");
            for (int b = 0; b < boats; b++) {
                text.append("boat at " + b + " needs " + (9 - b) + ";");
            }
            for (int w = 0; w < watchers; w++) {
                int on = Math.min(w, boats - 1);
                text.append("watcher eyes " + (9 - w) + " sees 0 to " + on + " on " + on + ";");
            }
            for (int s = 0; s < shows; s++) {
                text.append("show " + (s + 2) + " at " + s + ";");
            }
            return text.toString();
        }

        /** Each SLOT has a row, each IMAGE the RACE: no argument is refused for want of them. */
        Caller caller(String name) {
            Caller x = Caller.of(name + " (" + text() + ")", text());
            x.due("row 0..3 0 0 = 0", "image 0..2 = 0");
            return x;
        }
    }
}
