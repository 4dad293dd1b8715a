import java.math.BigInteger;
import java.util.ArrayList;
import java.util.Collections;
import java.util.Comparator;
import java.util.List;
import java.util.Random;
import java.util.TreeMap;

/**
 * Races by chance (of fixed seeds), each answer against a second telling of the document: slow, by
 * lists and recursion, and with nothing of the program's own code.
 */
public final class OracleTest {
    private static final int RACES = 400;
    private static final int DEAR_RACES = 120;
    /** Of five BOATS and five WATCHERS: their LOOKS are many. */
    private static final int DEAREST_RACES = 8;

    private OracleTest() {
    }

    public static void main(String[] args) {
        for (int i = 0; i < RACES; i++) {
            Random random = new Random(1000 + i);
            oneRace(random, "race " + i, i < DEAREST_RACES ? 5 : i < DEAR_RACES ? 4 : 3);
        }
        Check.finish("OracleTest");
    }

    private static void oneRace(Random random, String name, int most) {
        Told told = Told.byChance(random, most);
        PennantLawn x = new PennantLawn();
        leaveTraces(x);
        Check.due(name + " race()", Check.race(x, told.text()), told.lines());
        for (int round = 0; round < 3; round++) {
            String at = name + " round " + round + " " + told.acts;
            plain(x, told, at);
            otherwise(x, told, at);
            looks(x, told, at);
            rows(x, told, random, at);
            chances(x, told, random, at);
            act(x, told, random, at);
        }
    }

    /** A RACE as large as can be, ahead of the one asked of: nothing of it may be left. */
    private static void leaveTraces(PennantLawn x) {
        Check.race(x, "race steps 20 law 0 goal 60 odds 5;" + "boat at 20 needs 3;".repeat(5)
                + "watcher eyes 9 sees 0 to 4 on 4;".repeat(5) + "show 9 at 19;".repeat(5));
        for (int i = 0; i < 30; i++) {
            x.look(i % 5, i * 3 % 5, i % 20);
        }
        x.ways(0);
        Check.seen(x, 0, 0, 0, 20);
        x.fits(0);
        x.share(4, 4, 0);
        x.rests(3, 4);
    }

    private static void plain(PennantLawn x, Told told, String at) {
        Run run = new Run(told);
        int boats = told.boats.size();
        int watchers = told.watchers.size();
        int changes = 0;
        int drops = -1;
        for (int s = 0; s <= told.steps; s++) {
            List<Integer> order = run.order(s);
            int step = s;
            int fleet = 0;
            int unseen = 0;
            int arrived = 0;
            for (int b = 0; b < boats; b++) {
                Check.due(at + " place " + b + " " + s, x.place(b, s), run.place(b, s));
                int lookers = 0;
                for (int w = 0; w < watchers; w++) {
                    lookers |= run.look(w, s) == b ? 1 << w : 0;
                }
                Check.due(at + " lookers " + b + " " + s, x.lookers(b, s), lookers);
                int boat = b;
                Check.due(at + " behind " + b + " " + s, x.behind(b, s),
                        order.stream().filter(o -> run.place(o, step) > run.place(boat, step)).count());
                Check.due(at + " order " + b + " " + s, x.order(b, s), order.get(b));
                fleet += run.place(b, s);
                unseen |= lookers == 0 ? 1 << b : 0;
                arrived |= run.place(b, s) == told.goal ? 1 << b : 0;
                for (int o = 0; o < boats; o++) {
                    Check.due(at + " gap", x.gap(b, o, s), run.place(b, s) - run.place(o, s));
                }
                if (s < told.steps) {
                    int eyes = run.eyes(b, s);
                    Check.due(at + " eyes " + b + " " + s, x.eyes(b, s), eyes);
                    Check.due(at + " speed " + b + " " + s, x.speed(b, s), run.place(b, s + 1) - run.place(b, s));
                    Check.due(at + " lacks " + b + " " + s, x.lacks(b, s),
                            eyes >= told.boats.get(b)[1] ? 0 : told.boats.get(b)[1] - eyes);
                    drops = drops < 0 && run.calm(b, s) ? s : drops;
                }
            }
            for (int w = 0; w < watchers; w++) {
                Check.due(at + " on " + w + " " + s, x.on(w, s), run.look(w, s));
            }
            Check.due(at + " fleet", x.fleet(s), fleet);
            Check.due(at + " unseen", x.unseen(s), unseen);
            Check.due(at + " arrived", x.arrived(s), arrived);
            Check.due(at + " leads " + s, x.leads(s), run.leader(s));
            Check.due(at + " lags " + s, x.lags(s), run.lag(s));
            Check.due(at + " order none", x.order(boats, s), -2);
            changes += s > 0 && run.leader(s) != run.leader(s - 1) ? 1 : 0;
            int awake = 0;
            for (int w = 0; w < watchers; w++) {
                awake |= run.counts(w, s) ? 1 << w : 0;
            }
            Check.due(at + " awake " + s, x.awake(s), s < told.steps ? awake : -2);
        }
        Check.due(at + " changes", x.changes(), changes);
        Check.due(at + " drops", x.drops(), drops);
        Check.due(at + " wins", x.wins(), run.winner());
        perBoat(x, told, run, at);
        perWatcher(x, told, run, at);
    }

    private static void perBoat(PennantLawn x, Told told, Run run, String at) {
        int boats = told.boats.size();
        int calmest = -1;
        int most = 0;
        for (int b = 0; b < boats; b++) {
            int front = 0;
            int calm = 0;
            int total = 0;
            int seers = 0;
            for (int s = 0; s <= told.steps; s++) {
                front += run.leader(s) == b ? 1 : 0;
                calm |= s < told.steps && run.calm(b, s) ? 1 << s : 0;
                total += s < told.steps ? run.eyes(b, s) : 0;
            }
            for (int w = 0; w < told.watchers.size(); w++) {
                seers |= told.seen(w).contains(b) ? 1 << w : 0;
            }
            Check.due(at + " front", x.front(b), front);
            Check.due(at + " calm", x.calm(b), calm);
            Check.due(at + " total", x.total(b), total);
            Check.due(at + " seers", x.seers(b), seers);
            Check.due(at + " home", x.home(b), run.home(b));
            if (Integer.bitCount(calm) > most) {
                most = Integer.bitCount(calm);
                calmest = b;
            }
            for (int o = 0; o < boats; o++) {
                int even = 0;
                int passes = -1;
                for (int s = told.steps; s >= 0; s--) {
                    even += run.place(b, s) == run.place(o, s) ? 1 : 0;
                    if (s > 0 && run.place(b, s) > run.place(o, s) && !(run.place(b, s - 1) > run.place(o, s - 1))) {
                        passes = s;
                    }
                }
                Check.due(at + " even", x.even(b, o), even);
                Check.due(at + " passes", x.passes(b, o), passes);
            }
        }
        Check.due(at + " calmest", x.calmest(), calmest);
    }

    private static void perWatcher(PennantLawn x, Told told, Run run, String at) {
        int faithful = 0;
        for (int w = 0; w < told.watchers.size(); w++) {
            TreeMap<Integer, Integer> steps = new TreeMap<>();
            int wavers = 0;
            for (int s = 0; s <= told.steps; s++) {
                steps.merge(run.look(w, s), 1, Integer::sum);
                wavers += s > 0 && run.look(w, s) != run.look(w, s - 1) ? 1 : 0;
            }
            int best = Collections.max(steps.values());
            Check.due(at + " wavers", x.wavers(w), wavers);
            Check.due(at + " gaze", x.gaze(w),
                    steps.entrySet().stream().filter(e -> e.getValue() == best).findFirst().get().getKey());
            faithful |= steps.size() == 1 && steps.containsKey(told.watchers.get(w)[3]) ? 1 << w : 0;
        }
        Check.due(at + " faithful", x.faithful(), faithful);
    }

    private static void otherwise(PennantLawn x, Told told, String at) {
        int winner = new Run(told).winner();
        for (int i = 0; i < told.shows.size(); i++) {
            Told other = told.copy();
            other.shows.remove(i);
            Check.due(at + " clear", x.clear(i), new Run(other).winner());
        }
        for (int law = 0; law < 4; law++) {
            Told other = told.copy();
            other.law = law;
            Check.due(at + " by", x.by(law), new Run(other).winner());
        }
        int key = -1;
        for (int w = told.watchers.size() - 1; w >= 0; w--) {
            Told other = told.copy();
            other.sleepers.add(w);
            key = winner >= 0 && new Run(other).winner() != winner ? w : key;
        }
        Check.due(at + " key", x.key(), key);
        for (int b = 0; b < told.boats.size(); b++) {
            int handicap = -1;
            for (int needs = 9; needs >= 1; needs--) {
                Told other = told.copy();
                other.boats.set(b, new int[] {told.boats.get(b)[0], needs});
                handicap = new Run(other).winner() != b ? needs : handicap;
            }
            Check.due(at + " handicap", x.handicap(b), handicap);
            int start = -1;
            for (int n = 30; n >= 0; n--) {
                Told other = told.copy();
                other.boats.set(b, new int[] {n, told.boats.get(b)[1]});
                start = new Run(other).winner() == b ? n : start;
            }
            Check.due(at + " start", x.start(b), start);
        }
        int spoils = 0;
        for (int s = 0; s < told.steps; s++) {
            int least = -1;
            for (int lure = 9; lure >= 1; lure--) {
                Told other = told.copy();
                other.shows.add(new int[] {lure, s});
                boolean kept = winner >= 0 && new Run(other).winner() != winner;
                spoils |= lure == 9 && kept ? 1 << s : 0;
                least = kept ? lure : least;
            }
            Check.due(at + " lure", x.lure(s), least);
        }
        Check.due(at + " spoils", x.spoils(), spoils);
    }

    private static void looks(PennantLawn x, Told told, String at) {
        int boats = told.boats.size();
        int watchers = told.watchers.size();
        List<List<Integer>> all = told.allLooks(0);
        List<Run> runs = new ArrayList<>();
        for (List<Integer> row : all) {
            runs.add(new Run(told.by(row)));
        }
        int can = 0;
        for (int b = 0; b < boats; b++) {
            int ways = 0;
            int fewest = -1;
            int soonest = -1;
            int far = 0;
            List<Integer> plan = null;
            for (int i = 0; i < all.size(); i++) {
                Run run = runs.get(i);
                far = Math.max(far, run.place(b, told.steps));
                int home = run.home(b);
                soonest = home >= 0 && (soonest < 0 || home < soonest) ? home : soonest;
                if (run.winner() == b) {
                    ways++;
                    can |= 1 << b;
                    plan = plan == null ? all.get(i) : plan;
                    int others = 0;
                    for (int w = 0; w < watchers; w++) {
                        others += all.get(i).get(w) == told.watchers.get(w)[3] ? 0 : 1;
                    }
                    fewest = fewest < 0 || others < fewest ? others : fewest;
                }
            }
            Check.due(at + " ways", x.ways(b), ways);
            Check.due(at + " fewest", x.fewest(b), fewest);
            Check.due(at + " soonest", x.soonest(b), soonest);
            Check.due(at + " far", x.far(b), far);
            for (int w = 0; w < watchers; w++) {
                Check.due(at + " plan", x.plan(b, w), plan == null ? -1 : plan.get(w));
            }
        }
        Check.due(at + " can", x.can(), can);
        cover(x, told, at);
        shares(x, told, at);
        games(x, told, at);
    }

    private static void cover(PennantLawn x, Told told, String at) {
        List<Integer> sets = new ArrayList<>();
        for (int set = 0; set < 1 << told.watchers.size(); set++) {
            List<Integer> unseen = told.boatNumbers();
            for (int w = 0; w < told.watchers.size(); w++) {
                if ((set & 1 << w) != 0) {
                    unseen.removeAll(told.seen(w));
                }
            }
            if (unseen.isEmpty()) {
                sets.add(set);
            }
        }
        sets.sort(Comparator.<Integer>comparingInt(Integer::bitCount).thenComparingInt(set -> set));
        Check.due(at + " cover", x.cover(), sets.isEmpty() ? -1 : Integer.bitCount(sets.get(0)));
        Check.due(at + " covers", x.covers(), sets.isEmpty() ? -1 : sets.get(0));
    }

    private static void shares(PennantLawn x, Told told, String at) {
        int watchers = told.watchers.size();
        int[] worth = new int[1 << watchers];
        for (int b = 0; b < told.boats.size(); b++) {
            for (int set = 0; set < worth.length; set++) {
                Told other = told.copy();
                for (int w = 0; w < watchers; w++) {
                    if ((set & 1 << w) == 0) {
                        other.sleepers.add(w);
                    }
                }
                Run run = new Run(other);
                worth[set] = run.place(b, told.steps) - run.place(b, 0);
            }
            long[] sums = new long[watchers];
            long orders = permute(new ArrayList<>(), watchers, worth, sums);
            for (int w = 0; w < watchers; w++) {
                fraction(at + " share " + b + " " + w, x.share(b, w, 0), x.share(b, w, 1), sums[w], orders);
            }
        }
    }

    private static long permute(List<Integer> ahead, int watchers, int[] worth, long[] sums) {
        if (ahead.size() == watchers) {
            int set = 0;
            for (int w : ahead) {
                sums[w] += worth[set | 1 << w] - worth[set];
                set |= 1 << w;
            }
            return 1;
        }
        long orders = 0;
        for (int w = 0; w < watchers; w++) {
            if (!ahead.contains(w)) {
                ahead.add(w);
                orders += permute(ahead, watchers, worth, sums);
                ahead.remove(ahead.size() - 1);
            }
        }
        return orders;
    }

    private static void fraction(String what, long above, long below, long wantAbove, long wantBelow) {
        BigInteger a = BigInteger.valueOf(wantAbove);
        BigInteger b = BigInteger.valueOf(wantBelow);
        BigInteger common = a.gcd(b);
        Check.due(what + " above", above, a.divide(common).longValueExact());
        Check.due(what + " below", below, b.divide(common).longValueExact());
    }

    private static void games(PennantLawn x, Told told, String at) {
        int watchers = told.watchers.size();
        for (int v = 0; v < watchers; v++) {
            for (int w = 0; w < watchers; w++) {
                if (v == w) {
                    Check.due(at + " one twice", x.rests(v, w), -2);
                    continue;
                }
                int count = 0;
                int first = -1;
                for (int a : told.seen(v)) {
                    for (int b : told.seen(w)) {
                        if (atRest(told, v, w, a, b)) {
                            count++;
                            first = first < 0 ? 10 * a + b : first;
                        }
                    }
                }
                Check.due(at + " rests", x.rests(v, w), count);
                Check.due(at + " rest", x.rest(v, w), first);
            }
        }
    }

    private static boolean atRest(Told told, int v, int w, int a, int b) {
        for (int other : told.seen(v)) {
            if (gets(told, v, w, other, b, v) > gets(told, v, w, a, b, v)) {
                return false;
            }
        }
        for (int other : told.seen(w)) {
            if (gets(told, v, w, a, other, w) > gets(told, v, w, a, b, w)) {
                return false;
            }
        }
        return true;
    }

    private static int gets(Told told, int v, int w, int a, int b, int who) {
        List<Integer> row = new ArrayList<>();
        for (int[] watcher : told.watchers) {
            row.add(watcher[3]);
        }
        row.set(v, a);
        row.set(w, b);
        return new Run(told.by(row)).place(told.watchers.get(who)[3], told.steps);
    }

    private static void rows(PennantLawn x, Told told, Random random, String at) {
        List<List<Integer>> all = told.allLooks(0);
        int triples = told.boats.isEmpty() ? 0 : random.nextInt(4);
        Told source = told.by(all.get(random.nextInt(all.size())));
        source.law = random.nextInt(3) == 0 ? random.nextInt(4) : told.law;
        Run run = new Run(source);
        int[] numbers = new int[3 * triples];
        for (int i = 0; i < numbers.length; i += 3) {
            numbers[i] = random.nextInt(told.boats.size());
            numbers[i + 1] = random.nextInt(told.steps + 1);
            numbers[i + 2] = random.nextInt(8) == 0 ? random.nextInt(61) : run.place(numbers[i], numbers[i + 1]);
        }
        int slot = random.nextInt(4);
        Check.seen(x, slot, numbers);
        List<List<Integer>> fitting = new ArrayList<>();
        for (List<Integer> row : all) {
            if (isSo(new Run(told.by(row)), numbers)) {
                fitting.add(row);
            }
        }
        Check.due(at + " fits", x.fits(slot), fitting.size());
        int ask = -1;
        int leaves = fitting.size();
        for (int w = 0; w < told.watchers.size(); w++) {
            int may = 0;
            int worst = 0;
            for (int b = 0; b < told.boats.size(); b++) {
                int left = 0;
                for (List<Integer> row : fitting) {
                    left += row.get(w) == b ? 1 : 0;
                }
                may |= left > 0 ? 1 << b : 0;
                worst = Math.max(worst, left);
            }
            Check.due(at + " may", x.may(slot, w), may);
            if (worst < leaves) {
                ask = w;
                leaves = worst;
            }
        }
        Check.due(at + " ask", x.ask(slot), ask);
        Check.due(at + " leaves", x.leaves(slot), leaves);
        int laws = 0;
        for (int law = 0; law < 4; law++) {
            Told other = told.copy();
            other.law = law;
            laws |= isSo(new Run(other), numbers) ? 1 << law : 0;
        }
        Check.due(at + " laws", x.laws(slot), laws);
    }

    private static boolean isSo(Run run, int[] numbers) {
        for (int i = 0; i < numbers.length; i += 3) {
            if (run.place(numbers[i], numbers[i + 1]) != numbers[i + 2]) {
                return false;
            }
        }
        return true;
    }

    private static void chances(PennantLawn x, Told told, Random random, String at) {
        for (int s = 0; s < told.steps && s < 6; s++) {
            int boats = told.boats.size();
            long[] leads = new long[boats];
            long[] means = new long[boats];
            branch(told.copy(), 0, s, 1, leads, means);
            long below = Math.round(Math.pow(10, s + 1));
            for (int b = 0; b < boats; b++) {
                fraction(at + " chance", x.chance(b, s, 0), x.chance(b, s, 1), leads[b], below);
                fraction(at + " mean", x.mean(b, s, 0), x.mean(b, s, 1), means[b], below);
            }
        }
        int seed = random.nextInt(2000000000);
        int[] won = new int[told.boats.size()];
        int n = 1 + random.nextInt(20);
        for (int i = 0; i < n; i++) {
            int bits = drawnBits(told, seed + i);
            Told other = told.copy();
            for (int s = 0; s < told.steps; s++) {
                if ((bits & 1 << s) != 0) {
                    other.shows.add(new int[] {5, s});
                }
            }
            int winner = new Run(other).winner();
            Check.due(at + " drawn STEPS", x.drawn(seed + i, 0), bits);
            Check.due(at + " drawn WINS", x.drawn(seed + i, 1), winner);
            if (winner >= 0) {
                won[winner]++;
            }
        }
        for (int b = 0; b < won.length; b++) {
            Check.due(at + " luck", x.luck(seed, n, b), won[b]);
        }
    }

    private static void branch(Told told, int step, int last, long weight, long[] leads, long[] means) {
        if (step > last) {
            Run run = new Run(told);
            for (int b = 0; b < leads.length; b++) {
                leads[b] += run.leader(last + 1) == b ? weight : 0;
                means[b] += weight * run.place(b, last + 1);
            }
            return;
        }
        branch(told, step + 1, last, weight * (10 - told.odds), leads, means);
        Told with = told.copy();
        with.shows.add(new int[] {5, step});
        branch(with, step + 1, last, weight * told.odds, leads, means);
    }

    private static int drawnBits(Told told, int seed) {
        BigInteger x = BigInteger.valueOf(seed);
        int bits = 0;
        for (int s = 0; s < told.steps; s++) {
            x = x.multiply(BigInteger.valueOf(1103515245)).add(BigInteger.valueOf(12345));
            x = x.mod(BigInteger.valueOf(2147483648L));
            int draw = x.divide(BigInteger.valueOf(65536)).mod(BigInteger.TEN).intValue();
            bits += draw < told.odds ? 1 << s : 0;
        }
        return bits;
    }

    private static void act(PennantLawn x, Told told, Random random, String at) {
        int watchers = told.watchers.size();
        for (int i = random.nextInt(6); i > 0 && watchers > 0; i--) {
            Run run = new Run(told);
            int w = random.nextInt(watchers);
            int s = random.nextInt(told.steps + 1);
            if (random.nextInt(3) > 0) {
                int b = random.nextInt(told.boats.size());
                Check.due(at + " look", x.look(w, b, s), run.look(w, s));
                told.acts.add(List.of(w, b, s));
            } else if (s < told.steps) {
                Check.due(at + " sneeze", x.sneeze(w, s), run.counts(w, s) ? 1 : 0);
                told.acts.add(List.of(w, -1, s));
            }
        }
        if (random.nextInt(4) == 0 && !told.acts.isEmpty()) {
            told.acts.remove(told.acts.size() - 1);
            Check.due(at + " undo", x.undo(), told.acts.size());
        }
        if (random.nextInt(6) == 0) {
            Check.due(at + " anew", x.anew(), told.acts.size());
            told.acts.clear();
        }
        if (!told.boats.isEmpty()) {
            int b = random.nextInt(told.boats.size());
            int n = 1 + random.nextInt(9);
            boolean none = told.acts.isEmpty();
            Check.due(at + " rate", x.rate(b, n), none ? told.boats.get(b)[1] : -5);
            if (none) {
                told.boats.set(b, new int[] {told.boats.get(b)[0], n});
            }
        }
    }

    /** A RACE as told, with all that may be told otherwise. */
    private static final class Told {
        int steps;
        int law;
        int goal;
        int odds;
        /** start, needs */
        List<int[]> boats = new ArrayList<>();
        /** eyes, first, last, on */
        List<int[]> watchers = new ArrayList<>();
        /** lure, STEP */
        List<int[]> shows = new ArrayList<>();
        /** WATCHER, BOAT (-1: sneezes), STEP */
        List<List<Integer>> acts = new ArrayList<>();
        List<Integer> sleepers = new ArrayList<>();

        static Told byChance(Random random, int most) {
            Told told = new Told();
            told.steps = 1 + random.nextInt(random.nextInt(4) == 0 ? 20 : 8);
            told.law = random.nextInt(4);
            told.goal = 1 + random.nextInt(random.nextInt(3) == 0 ? 60 : 20);
            told.odds = random.nextInt(11);
            int boats = most == 5 ? 5 : random.nextInt(12) == 0 ? 0 : 1 + random.nextInt(most);
            for (int i = 0; i < boats; i++) {
                told.boats.add(new int[] {random.nextInt(random.nextInt(8) == 0 ? 31 : 6), 1 + random.nextInt(9)});
            }
            int watchers = most == 5 ? 5 : boats == 0 ? 0 : random.nextInt(most + 1);
            for (int i = 0; i < watchers; i++) {
                int first = random.nextInt(boats);
                int last = first + random.nextInt(boats - first);
                int on = first + random.nextInt(last - first + 1);
                told.watchers.add(new int[] {1 + random.nextInt(9), first, last, on});
            }
            int shows = random.nextInt(6);
            for (int i = 0; i < shows; i++) {
                int last = random.nextBoolean() ? told.steps : 20;
                told.shows.add(new int[] {1 + random.nextInt(9), random.nextInt(last)});
            }
            return told;
        }

        Told copy() {
            Told copy = new Told();
            copy.steps = steps;
            copy.law = law;
            copy.goal = goal;
            copy.odds = odds;
            copy.boats.addAll(boats);
            copy.watchers.addAll(watchers);
            copy.shows.addAll(shows);
            copy.acts.addAll(acts);
            copy.sleepers.addAll(sleepers);
            return copy;
        }

        Told by(List<Integer> row) {
            Told other = copy();
            for (int w = 0; w < row.size(); w++) {
                int[] watcher = watchers.get(w).clone();
                watcher[3] = row.get(w);
                other.watchers.set(w, watcher);
            }
            return other;
        }

        int lines() {
            return 1 + boats.size() + watchers.size() + shows.size();
        }

        String text() {
            StringBuilder text = new StringBuilder();
            text.append("race steps " + steps + " law " + law + " goal " + goal + " odds " + odds + ";\n");
            boats.forEach(b -> text.append("boat at " + b[0] + " needs " + b[1] + ";"));
            shows.forEach(s -> text.append("show " + s[0] + " at " + s[1] + ";"));
            watchers.forEach(w -> text.append(
                    "watcher eyes " + w[0] + " sees " + w[1] + " to " + w[2] + " on " + w[3] + " ;\n"));
            return text.toString();
        }

        List<Integer> boatNumbers() {
            List<Integer> numbers = new ArrayList<>();
            for (int b = 0; b < boats.size(); b++) {
                numbers.add(b);
            }
            return numbers;
        }

        List<Integer> seen(int w) {
            return boatNumbers().subList(watchers.get(w)[1], watchers.get(w)[2] + 1);
        }

        /** All rows for the WATCHERS from one on, the least first. */
        List<List<Integer>> allLooks(int from) {
            List<List<Integer>> all = new ArrayList<>();
            if (from == watchers.size()) {
                all.add(new ArrayList<>());
                return all;
            }
            for (int b : seen(from)) {
                for (List<Integer> rest : allLooks(from + 1)) {
                    List<Integer> row = new ArrayList<>();
                    row.add(b);
                    row.addAll(rest);
                    all.add(row);
                }
            }
            return all;
        }
    }

    /** How a RACE goes, asked from the last STEP backwards and remembered. */
    private static final class Run {
        final Told told;
        final Integer[][] places;
        final Integer[][] looks;

        Run(Told told) {
            this.told = told;
            places = new Integer[told.boats.size()][told.steps + 1];
            looks = new Integer[told.watchers.size()][told.steps + 1];
        }

        int place(int b, int s) {
            if (places[b][s] == null) {
                int far = told.boats.get(b)[0];
                if (s > 0) {
                    far = place(b, s - 1) + pace(b, s - 1);
                }
                places[b][s] = far > told.goal ? told.goal : far;
            }
            return places[b][s];
        }

        int pace(int b, int s) {
            int pace = eyes(b, s) / told.boats.get(b)[1];
            return pace > 3 ? 3 : pace;
        }

        int eyes(int b, int s) {
            int sum = 0;
            for (int w = 0; w < told.watchers.size(); w++) {
                if (look(w, s) == b && counts(w, s)) {
                    sum += told.watchers.get(w)[0];
                }
            }
            return sum;
        }

        boolean counts(int w, int s) {
            boolean lured = told.shows.stream().anyMatch(o -> o[1] == s && told.watchers.get(w)[0] <= o[0]);
            return !lured && !told.sleepers.contains(w) && !told.acts.contains(List.of(w, -1, s));
        }

        int look(int w, int s) {
            if (looks[w][s] == null) {
                int on = s == 0 ? told.watchers.get(w)[3] : turn(w, s);
                for (List<Integer> act : told.acts) {
                    if (act.get(0) == w && act.get(1) >= 0 && act.get(2) == s) {
                        on = act.get(1);
                    }
                }
                looks[w][s] = on;
            }
            return looks[w][s];
        }

        int turn(int w, int s) {
            List<Integer> seen = new ArrayList<>(told.seen(w));
            int before = look(w, s - 1);
            if (told.law == 0) {
                return before;
            }
            if (told.law == 3) {
                return seen.get((seen.indexOf(before) + 1) % seen.size());
            }
            seen.sort(Comparator.comparingInt(b -> told.law == 1 ? -place(b, s) : place(b, s)));
            return seen.get(0);
        }

        boolean calm(int b, int s) {
            return place(b, s) < told.goal && eyes(b, s) < told.boats.get(b)[1];
        }

        List<Integer> order(int s) {
            List<Integer> order = told.boatNumbers();
            order.sort(Comparator.comparingInt(b -> -place(b, s)));
            return order;
        }

        int leader(int s) {
            return told.boats.isEmpty() ? -1 : order(s).get(0);
        }

        int lag(int s) {
            List<Integer> order = told.boatNumbers();
            order.sort(Comparator.comparingInt(b -> place(b, s)));
            return order.isEmpty() ? -1 : order.get(0);
        }

        int home(int b) {
            for (int s = 0; s <= told.steps; s++) {
                if (place(b, s) == told.goal) {
                    return s;
                }
            }
            return -1;
        }

        int winner() {
            int best = -1;
            for (int b = told.boats.size() - 1; b >= 0; b--) {
                int home = home(b);
                if (home >= 0 && (best < 0 || home <= home(best))) {
                    best = b;
                }
            }
            return best;
        }
    }
}
