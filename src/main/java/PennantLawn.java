/**
 * A race of boats that go by the eyes that rest on them, told as a text.
 * Words in capitals in the comments are those of the document's terms.
 */
public final class PennantLawn {
    public static final int NONE = -1;

    private static final int NO_SUCH = -2;
    private static final int BELOW_ZERO = -3;
    private static final int FAULTY = -4;
    private static final int REFUSED = -5;
    private static final int NOTHING_THERE = -6;
    private static final int BEYOND = -7;
    private static final int UNLIKE = -8;
    private static final int NO_GAP = -1000;

    private static final int MOST = 5;
    private static final int MOST_STEPS = 20;
    private static final int MOST_ACTS = 30;
    private static final int MOST_BYTES = 600;
    private static final int MOST_NUMBERS = 60;
    private static final int MOST_START = 30;
    private static final int MOST_NEEDS = 9;
    private static final int MOST_LURE = 9;
    private static final int MOST_EYES = 9;
    private static final int MOST_GOAL = 60;
    private static final int MOST_ODDS = 10;
    private static final int MOST_PACE = 3;
    private static final int MOST_LOOKS = 3125;
    private static final int LAW_COUNT = 4;
    private static final int SLOT_COUNT = 4;
    private static final int WIDTH_COUNT = 4;
    private static final int IMAGE_COUNT = 3;
    private static final int KINGFISHER_LURE = 5;
    private static final int LAST_CHANCE_STEP = 7;
    private static final int MOST_SEED = 2000000000;
    private static final int MOST_RACES_DRAWN = 20;
    private static final int[] FACTORIALS = {1, 1, 2, 6, 24, 120};

    private final Tape tape;
    private final Reader reader;
    private final Race race;
    private final Race[] images;
    private final boolean[] imagesKept;
    private final Course now;
    private final Course trial;
    private final Survey survey;
    private final Seen seen;
    private final Shares shares;
    private final Game game;
    private final Row[] rows;

    public PennantLawn() {
        tape = new Tape();
        reader = new Reader(tape);
        race = new Race();
        now = new Course(race);
        trial = new Course(race);
        survey = new Survey(race, trial);
        seen = new Seen(race, trial);
        shares = new Shares(race, trial);
        game = new Game(race, trial);
        images = new Race[IMAGE_COUNT];
        imagesKept = new boolean[IMAGE_COUNT];
        for (int k = 0; k < IMAGE_COUNT; k++) {
            images[k] = new Race();
        }
        rows = new Row[SLOT_COUNT];
        for (int slot = 0; slot < SLOT_COUNT; slot++) {
            rows[slot] = new Row();
        }
    }

    // The TAPE and the RACE that it tells

    public int feed(int a, int b, int c, int d, int e) {
        if (tape.length + 20 > MOST_BYTES) {
            return NONE;
        }
        tape.put(a);
        tape.put(b);
        tape.put(c);
        tape.put(d);
        tape.put(e);
        return tape.length;
    }

    public int end(int n) {
        if (n < 0 || n > tape.length) {
            return NONE;
        }
        tape.length = n;
        return n;
    }

    public int race() {
        boolean told = reader.readTape();
        tape.length = 0;
        if (!told) {
            return FAULTY;
        }
        race.copyFrom(reader.draft);
        sailAgain();
        return race.lines;
    }

    public int fault(int what) {
        if (what == 0) {
            return reader.fault;
        }
        return what == 1 ? reader.faultPlace : NONE;
    }

    // What was told

    public int boat(int boat, int what) {
        if (!race.hasBoat(boat) || !isPart(what)) {
            return NO_SUCH;
        }
        return what == 0 ? race.starts[boat] : race.needs[boat];
    }

    public int watcher(int watcher, int what) {
        if (!race.hasWatcher(watcher)) {
            return NO_SUCH;
        }
        switch (what) {
            case 0:
                return race.eyes[watcher];
            case 1:
                return race.firstSeen[watcher];
            case 2:
                return race.lastSeen[watcher];
            case 3:
                return race.told[watcher];
            default:
                return NO_SUCH;
        }
    }

    public int show(int show, int what) {
        if (!race.hasShow(show) || !isPart(what)) {
            return NO_SUCH;
        }
        return what == 0 ? race.lures[show] : race.lureSteps[show];
    }

    // How the RACE goes

    public int place(int boat, int step) {
        if (!race.hasBoat(boat) || !race.hasStep(step)) {
            return NO_SUCH;
        }
        return now.places[step][boat];
    }

    public int on(int watcher, int step) {
        if (!race.hasWatcher(watcher) || !race.hasStep(step)) {
            return NO_SUCH;
        }
        return now.looks[step][watcher];
    }

    public int eyes(int boat, int step) {
        if (!race.hasBoat(boat) || !race.hasEarlyStep(step)) {
            return NO_SUCH;
        }
        return now.eyes[step][boat];
    }

    public int awake(int step) {
        return race.hasEarlyStep(step) ? now.awake[step] : NO_SUCH;
    }

    public int lookers(int boat, int step) {
        if (!race.hasBoat(boat) || !race.hasStep(step)) {
            return NO_SUCH;
        }
        return now.lookersAt(boat, step);
    }

    public int leads(int step) {
        return race.hasStep(step) ? now.leader(step) : NO_SUCH;
    }

    public int lags(int step) {
        return race.hasStep(step) ? now.last(step) : NO_SUCH;
    }

    public int front(int boat) {
        if (!race.hasBoat(boat)) {
            return NO_SUCH;
        }
        int steps = 0;
        for (int step = 0; step <= race.steps; step++) {
            if (now.leader(step) == boat) {
                steps++;
            }
        }
        return steps;
    }

    public int behind(int boat, int step) {
        if (!race.hasBoat(boat) || !race.hasStep(step)) {
            return NO_SUCH;
        }
        int farther = 0;
        for (int other = 0; other < race.boats; other++) {
            if (now.places[step][other] > now.places[step][boat]) {
                farther++;
            }
        }
        return farther;
    }

    public int calm(int boat) {
        return race.hasBoat(boat) ? now.calmSteps(boat) : NO_SUCH;
    }

    public int drops() {
        if (!race.exists()) {
            return NO_SUCH;
        }
        for (int step = 0; step < race.steps; step++) {
            for (int boat = 0; boat < race.boats; boat++) {
                if (now.isBecalmed(boat, step)) {
                    return step;
                }
            }
        }
        return NONE;
    }

    public int home(int boat) {
        return race.hasBoat(boat) ? now.homeStep(boat) : NO_SUCH;
    }

    public int wins() {
        return race.exists() ? now.winner() : NO_SUCH;
    }

    public int gap(int boat, int other, int step) {
        if (!race.hasBoat(boat) || !race.hasBoat(other) || !race.hasStep(step)) {
            return NO_GAP;
        }
        return now.places[step][boat] - now.places[step][other];
    }

    public int changes() {
        if (!race.exists()) {
            return NO_SUCH;
        }
        int changed = 0;
        for (int step = 1; step <= race.steps; step++) {
            if (now.leader(step) != now.leader(step - 1)) {
                changed++;
            }
        }
        return changed;
    }

    public int wavers(int watcher) {
        if (!race.hasWatcher(watcher)) {
            return NO_SUCH;
        }
        int turns = 0;
        for (int step = 1; step <= race.steps; step++) {
            if (now.looks[step][watcher] != now.looks[step - 1][watcher]) {
                turns++;
            }
        }
        return turns;
    }

    public int speed(int boat, int step) {
        if (!race.hasBoat(boat) || !race.hasEarlyStep(step)) {
            return NO_SUCH;
        }
        return now.places[step + 1][boat] - now.places[step][boat];
    }

    public int lacks(int boat, int step) {
        if (!race.hasBoat(boat) || !race.hasEarlyStep(step)) {
            return NO_SUCH;
        }
        return Math.max(0, race.needs[boat] - now.eyes[step][boat]);
    }

    public int total(int boat) {
        if (!race.hasBoat(boat)) {
            return NO_SUCH;
        }
        int sum = 0;
        for (int step = 0; step < race.steps; step++) {
            sum += now.eyes[step][boat];
        }
        return sum;
    }

    public int fleet(int step) {
        if (!race.hasStep(step)) {
            return NO_SUCH;
        }
        int sum = 0;
        for (int boat = 0; boat < race.boats; boat++) {
            sum += now.places[step][boat];
        }
        return sum;
    }

    public int gaze(int watcher) {
        if (!race.hasWatcher(watcher)) {
            return NO_SUCH;
        }
        int most = NONE;
        int mostSteps = 0;
        for (int boat = 0; boat < race.boats; boat++) {
            int steps = now.stepsOn(watcher, boat);
            if (steps > mostSteps) {
                most = boat;
                mostSteps = steps;
            }
        }
        return most;
    }

    public int faithful() {
        if (!race.exists()) {
            return NO_SUCH;
        }
        int bits = 0;
        for (int watcher = 0; watcher < race.watchers; watcher++) {
            if (now.stepsOn(watcher, race.told[watcher]) == race.steps + 1) {
                bits |= 1 << watcher;
            }
        }
        return bits;
    }

    public int unseen(int step) {
        if (!race.hasStep(step)) {
            return NO_SUCH;
        }
        int bits = 0;
        for (int boat = 0; boat < race.boats; boat++) {
            if (now.lookersAt(boat, step) == 0) {
                bits |= 1 << boat;
            }
        }
        return bits;
    }

    public int seers(int boat) {
        if (!race.hasBoat(boat)) {
            return NO_SUCH;
        }
        int bits = 0;
        for (int watcher = 0; watcher < race.watchers; watcher++) {
            if (race.sees(watcher, boat)) {
                bits |= 1 << watcher;
            }
        }
        return bits;
    }

    public int order(int i, int step) {
        if (!race.hasStep(step)) {
            return NO_SUCH;
        }
        for (int boat = 0; boat < race.boats; boat++) {
            if (now.rank(boat, step) == i) {
                return boat;
            }
        }
        return NO_SUCH;
    }

    public int even(int boat, int other) {
        if (!race.hasBoat(boat) || !race.hasBoat(other)) {
            return NO_SUCH;
        }
        int steps = 0;
        for (int step = 0; step <= race.steps; step++) {
            if (now.places[step][boat] == now.places[step][other]) {
                steps++;
            }
        }
        return steps;
    }

    public int passes(int boat, int other) {
        if (!race.hasBoat(boat) || !race.hasBoat(other)) {
            return NO_SUCH;
        }
        for (int step = 1; step <= race.steps; step++) {
            if (now.places[step][boat] > now.places[step][other]
                    && now.places[step - 1][boat] <= now.places[step - 1][other]) {
                return step;
            }
        }
        return NONE;
    }

    public int arrived(int step) {
        if (!race.hasStep(step)) {
            return NO_SUCH;
        }
        int bits = 0;
        for (int boat = 0; boat < race.boats; boat++) {
            if (now.isHome(boat, step)) {
                bits |= 1 << boat;
            }
        }
        return bits;
    }

    public int calmest() {
        if (!race.exists()) {
            return NO_SUCH;
        }
        int most = NONE;
        int mostSteps = 0;
        for (int boat = 0; boat < race.boats; boat++) {
            int steps = Integer.bitCount(now.calmSteps(boat));
            if (steps > mostSteps) {
                most = boat;
                mostSteps = steps;
            }
        }
        return most;
    }

    // What if it were told otherwise

    public int clear(int show) {
        if (!race.hasShow(show)) {
            return NO_SUCH;
        }
        trial.prepareWithout(show);
        return trial.sailToWinner();
    }

    public int key() {
        if (!race.exists()) {
            return NO_SUCH;
        }
        int winner = now.winner();
        if (winner == NONE) {
            return NONE;
        }
        for (int watcher = 0; watcher < race.watchers; watcher++) {
            trial.prepare();
            trial.hush(1 << watcher);
            if (trial.sailToWinner() != winner) {
                return watcher;
            }
        }
        return NONE;
    }

    public int handicap(int boat) {
        if (!race.hasBoat(boat)) {
            return NO_SUCH;
        }
        trial.prepare();
        for (int needs = 1; needs <= MOST_NEEDS; needs++) {
            trial.needs[boat] = needs;
            if (trial.sailToWinner() != boat) {
                return needs;
            }
        }
        return NONE;
    }

    public int start(int boat) {
        if (!race.hasBoat(boat)) {
            return NO_SUCH;
        }
        trial.prepare();
        for (int start = 0; start <= MOST_START; start++) {
            trial.starts[boat] = start;
            if (trial.sailToWinner() == boat) {
                return start;
            }
        }
        return NONE;
    }

    public int by(int law) {
        if (!race.exists() || law < 0 || law >= LAW_COUNT) {
            return NO_SUCH;
        }
        trial.prepare();
        trial.law = law;
        return trial.sailToWinner();
    }

    // All LOOKS

    public int ways(int boat) {
        if (!race.hasBoat(boat)) {
            return NO_SUCH;
        }
        survey.makeIfStale();
        return survey.wayCounts[boat];
    }

    public int plan(int boat, int watcher) {
        if (!race.hasBoat(boat) || !race.hasWatcher(watcher)) {
            return NO_SUCH;
        }
        survey.makeIfStale();
        return survey.plans[boat][watcher];
    }

    public int fewest(int boat) {
        if (!race.hasBoat(boat)) {
            return NO_SUCH;
        }
        survey.makeIfStale();
        return survey.fewestOthers[boat];
    }

    public int soonest(int boat) {
        if (!race.hasBoat(boat)) {
            return NO_SUCH;
        }
        survey.makeIfStale();
        return survey.soonestHomes[boat];
    }

    public int far(int boat) {
        if (!race.hasBoat(boat)) {
            return NO_SUCH;
        }
        survey.makeIfStale();
        return survey.farthest[boat];
    }

    public int can() {
        if (!race.exists()) {
            return NO_SUCH;
        }
        survey.makeIfStale();
        int bits = 0;
        for (int boat = 0; boat < race.boats; boat++) {
            if (survey.wayCounts[boat] > 0) {
                bits |= 1 << boat;
            }
        }
        return bits;
    }

    // SHOWS besides, and who sees all

    public int spoils() {
        if (!race.exists()) {
            return NO_SUCH;
        }
        int winner = now.winner();
        if (winner == NONE) {
            return 0;
        }
        int bits = 0;
        for (int step = 0; step < race.steps; step++) {
            if (winnerWithShow(step, MOST_LURE) != winner) {
                bits |= 1 << step;
            }
        }
        return bits;
    }

    public int lure(int step) {
        if (!race.hasEarlyStep(step)) {
            return NO_SUCH;
        }
        int winner = now.winner();
        if (winner == NONE) {
            return NONE;
        }
        for (int lure = 1; lure <= MOST_LURE; lure++) {
            if (winnerWithShow(step, lure) != winner) {
                return lure;
            }
        }
        return NONE;
    }

    private int winnerWithShow(int step, int lure) {
        trial.prepare();
        trial.draw(step, lure);
        return trial.sailToWinner();
    }

    public int cover() {
        if (!race.exists()) {
            return NO_SUCH;
        }
        int set = leastCover();
        return set == NONE ? NONE : Integer.bitCount(set);
    }

    public int covers() {
        return race.exists() ? leastCover() : NO_SUCH;
    }

    private int leastCover() {
        int allBoats = (1 << race.boats) - 1;
        int best = NONE;
        for (int set = 0; set < 1 << race.watchers; set++) {
            if (seenBy(set) == allBoats
                    && (best == NONE || Integer.bitCount(set) < Integer.bitCount(best))) {
                best = set;
            }
        }
        return best;
    }

    private int seenBy(int set) {
        int bits = 0;
        for (int boat = 0; boat < race.boats; boat++) {
            for (int watcher = 0; watcher < race.watchers; watcher++) {
                if ((set >> watcher & 1) == 1 && race.sees(watcher, boat)) {
                    bits |= 1 << boat;
                }
            }
        }
        return bits;
    }

    // SEEN

    public int fits(int slot) {
        int wrong = wrongSeen(slot);
        if (wrong != 0) {
            return wrong;
        }
        seen.makeIfStale(slot, rows[slot]);
        return seen.total;
    }

    public int may(int slot, int watcher) {
        if (!race.hasWatcher(watcher)) {
            return NO_SUCH;
        }
        int wrong = wrongSeen(slot);
        if (wrong != 0) {
            return wrong;
        }
        seen.makeIfStale(slot, rows[slot]);
        return seen.boatsOf(watcher);
    }

    public int ask(int slot) {
        int wrong = wrongSeen(slot);
        if (wrong != 0) {
            return wrong;
        }
        seen.makeIfStale(slot, rows[slot]);
        return seen.bestAsked();
    }

    public int leaves(int slot) {
        int wrong = wrongSeen(slot);
        if (wrong != 0) {
            return wrong;
        }
        seen.makeIfStale(slot, rows[slot]);
        int asked = seen.bestAsked();
        return asked == NONE ? seen.total : seen.worstOf(asked);
    }

    public int laws(int slot) {
        int wrong = wrongSeen(slot);
        if (wrong != 0) {
            return wrong;
        }
        int bits = 0;
        trial.prepare();
        for (int law = 0; law < LAW_COUNT; law++) {
            trial.law = law;
            trial.sail(race.steps);
            if (rows[slot].agreesWith(trial)) {
                bits |= 1 << law;
            }
        }
        return bits;
    }

    /** 0 if the SLOT has a row that can be asked as SEEN, else what to answer. */
    private int wrongSeen(int slot) {
        if (!isSlot(slot) || !race.exists()) {
            return NO_SUCH;
        }
        if (!rows[slot].kept) {
            return NOTHING_THERE;
        }
        return rows[slot].tellsPlaces(race) ? 0 : NO_SUCH;
    }

    // SHARE and GAME

    public int share(int boat, int watcher, int what) {
        if (!race.hasBoat(boat) || !race.hasWatcher(watcher) || !isPart(what)) {
            return NO_SUCH;
        }
        shares.makeFor(boat);
        return (int) lowestTerms(shares.sumOf(watcher), FACTORIALS[race.watchers], what);
    }

    public int rests(int watcher, int other) {
        if (!areTwoWatchers(watcher, other)) {
            return NO_SUCH;
        }
        game.play(watcher, other);
        return game.restCount;
    }

    public int rest(int watcher, int other) {
        if (!areTwoWatchers(watcher, other)) {
            return NO_SUCH;
        }
        game.play(watcher, other);
        return game.firstRest;
    }

    private boolean areTwoWatchers(int watcher, int other) {
        return race.hasWatcher(watcher) && race.hasWatcher(other) && watcher != other;
    }

    // KINGFISHERS by chance

    public long chance(int boat, int step, int what) {
        if (!race.hasBoat(boat) || !isChanceStep(step) || !isPart(what)) {
            return NO_SUCH;
        }
        long above = 0;
        for (int set = 0; set < 2 << step; set++) {
            long weight = sailWithKingfishers(set, step);
            if (weight > 0 && trial.leader(step + 1) == boat) {
                above += weight;
            }
        }
        return lowestTerms(above, tenTo(step + 1), what);
    }

    public long mean(int boat, int step, int what) {
        if (!race.hasBoat(boat) || !isChanceStep(step) || !isPart(what)) {
            return NO_SUCH;
        }
        long above = 0;
        for (int set = 0; set < 2 << step; set++) {
            long weight = sailWithKingfishers(set, step);
            if (weight > 0) {
                above += weight * trial.places[step + 1][boat];
            }
        }
        return lowestTerms(above, tenTo(step + 1), what);
    }

    /** Sails to the STEP behind one, unless the set can't be; answers how likely it is, of ten to the STEPS. */
    private long sailWithKingfishers(int set, int step) {
        long weight = 1;
        for (int i = 0; i <= step; i++) {
            weight *= (set >> i & 1) == 1 ? race.odds : 10 - race.odds;
        }
        if (weight > 0) {
            trial.prepare();
            trial.drawKingfishers(set);
            trial.sail(step + 1);
        }
        return weight;
    }

    private boolean isChanceStep(int step) {
        return race.hasEarlyStep(step) && step <= LAST_CHANCE_STEP;
    }

    private static long tenTo(int n) {
        long power = 1;
        for (int i = 0; i < n; i++) {
            power *= 10;
        }
        return power;
    }

    private static long lowestTerms(long above, long below, int what) {
        long common = commonDivisor(Math.abs(above), below);
        if (common < 1) {
            return 0;
        }
        return (what == 0 ? above : below) / common;
    }

    private static long commonDivisor(long a, long b) {
        long larger = a;
        long smaller = b;
        for (int i = 0; i < 100 && smaller != 0; i++) {
            long left = larger % smaller;
            larger = smaller;
            smaller = left;
        }
        return larger;
    }

    // Acts

    public int look(int watcher, int boat, int step) {
        if (!race.hasWatcher(watcher) || !race.hasBoat(boat) || !race.hasStep(step)) {
            return NO_SUCH;
        }
        if (race.acts >= MOST_ACTS) {
            return REFUSED;
        }
        int before = now.looks[step][watcher];
        race.addAct(watcher, boat, step);
        sailAgain();
        return before;
    }

    public int sneeze(int watcher, int step) {
        if (!race.hasWatcher(watcher) || !race.hasEarlyStep(step)) {
            return NO_SUCH;
        }
        if (race.acts >= MOST_ACTS) {
            return REFUSED;
        }
        int before = now.awake[step] >> watcher & 1;
        race.addAct(watcher, NONE, step);
        sailAgain();
        return before;
    }

    public int undo() {
        if (!race.exists()) {
            return NO_SUCH;
        }
        if (race.acts < 1) {
            return REFUSED;
        }
        race.acts--;
        sailAgain();
        return race.acts;
    }

    public int anew() {
        if (!race.exists()) {
            return NO_SUCH;
        }
        int before = race.acts;
        race.acts = 0;
        sailAgain();
        return before;
    }

    // RACES drawn

    public int drawn(int seed, int what) {
        if (!race.exists() || !isSeed(seed) || !isPart(what)) {
            return NO_SUCH;
        }
        return what == 0 ? drawnKingfishers(seed) : drawnWinner(seed);
    }

    public int luck(int seed, int n, int boat) {
        if (!race.hasBoat(boat) || !isSeed(seed) || n < 1 || n > MOST_RACES_DRAWN) {
            return NO_SUCH;
        }
        int won = 0;
        for (int i = 0; i < n; i++) {
            if (drawnWinner(seed + i) == boat) {
                won++;
            }
        }
        return won;
    }

    private int drawnKingfishers(int seed) {
        long x = seed;
        int bits = 0;
        for (int step = 0; step < race.steps; step++) {
            x = (1103515245L * x + 12345L) % 2147483648L;
            if (x / 65536L % 10L < race.odds) {
                bits |= 1 << step;
            }
        }
        return bits;
    }

    private int drawnWinner(int seed) {
        trial.prepare();
        trial.drawKingfishers(drawnKingfishers(seed));
        return trial.sailToWinner();
    }

    private static boolean isSeed(int seed) {
        return seed >= 0 && seed <= MOST_SEED;
    }

    // The RACE changed, counted, kept

    public int rate(int boat, int n) {
        if (!race.hasBoat(boat) || n < 1 || n > MOST_NEEDS) {
            return NO_SUCH;
        }
        if (race.acts > 0) {
            return REFUSED;
        }
        int before = race.needs[boat];
        race.needs[boat] = n;
        sailAgain();
        return before;
    }

    public int count(int what) {
        switch (what) {
            case 0:
                return race.steps;
            case 1:
                return race.law;
            case 2:
                return race.goal;
            case 3:
                return race.odds;
            case 4:
                return race.boats;
            case 5:
                return race.watchers;
            case 6:
                return race.shows;
            case 7:
                return race.acts;
            case 8:
                return race.lines;
            case 9:
                return tape.length;
            case 10:
                return rowsKept();
            default:
                return NONE;
        }
    }

    private int rowsKept() {
        int kept = 0;
        for (int slot = 0; slot < SLOT_COUNT; slot++) {
            if (rows[slot].kept) {
                kept++;
            }
        }
        return kept;
    }

    public int image(int k) {
        if (k < 0 || k >= IMAGE_COUNT) {
            return NO_SUCH;
        }
        images[k].copyFrom(race);
        imagesKept[k] = true;
        return 0;
    }

    public int back(int k) {
        if (k < 0 || k >= IMAGE_COUNT) {
            return NO_SUCH;
        }
        if (!imagesKept[k]) {
            return NOTHING_THERE;
        }
        race.copyFrom(images[k]);
        sailAgain();
        return 0;
    }

    // SLOTS

    public int row(int slot, int width, int n) {
        if (!isSlot(slot) || width < 0 || width >= WIDTH_COUNT || n > MOST_NUMBERS) {
            return NO_SUCH;
        }
        if (n < 0) {
            return BELOW_ZERO;
        }
        rows[slot].lay(width, n);
        seen.slot = NONE;
        return 0;
    }

    public int write(int slot, int i, long v) {
        if (!isSlot(slot)) {
            return NO_SUCH;
        }
        if (!rows[slot].kept) {
            return NOTHING_THERE;
        }
        if (i < 0 || i >= rows[slot].size) {
            return BEYOND;
        }
        rows[slot].put(i, v);
        seen.slot = NONE;
        return 0;
    }

    public int paste(int slot, int i, int to, int k, int n) {
        if (!isSlot(slot) || !isSlot(to)) {
            return NO_SUCH;
        }
        Row source = rows[slot];
        Row target = rows[to];
        if (!source.kept || !target.kept) {
            return NOTHING_THERE;
        }
        if (source.width != target.width) {
            return UNLIKE;
        }
        if (!source.hasSpan(i, n) || !target.hasSpan(k, n)) {
            return BEYOND;
        }
        System.arraycopy(source.numbers, i, target.numbers, k, n);
        seen.slot = NONE;
        return 0;
    }

    private static boolean isSlot(int slot) {
        return slot >= 0 && slot < SLOT_COUNT;
    }

    private static boolean isPart(int what) {
        return what == 0 || what == 1;
    }

    /** Behind each change of the RACE or its acts: what hangs on them is made again. */
    private void sailAgain() {
        now.prepare();
        now.sail(race.steps);
        survey.stale = true;
        seen.slot = NONE;
    }

    /** The bytes fed that no race() has taken yet. */
    private static final class Tape {
        final int[] bytes = new int[MOST_BYTES];
        int length = 0;

        /** Four bytes of a number come, the highest first; the caller has seen that there is room. */
        void put(int number) {
            for (int shift = 24; shift >= 0 && length < MOST_BYTES; shift -= 8) {
                bytes[length] = number >> shift & 255;
                length++;
            }
        }
    }

    /** Reads the TAPE into a draft, so that the RACE stays where there is a FAULT. */
    private static final class Reader {
        private static final int END = 0;
        private static final int WORD = 1;
        private static final int NUMBER = 2;
        private static final int SIGN = 3;
        private static final int OTHER = 4;

        private static final int MISPLACED = 1;
        private static final int OUT_OF_BOUNDS = 2;
        private static final int TOO_MANY = 3;

        /** Far above all bounds, and far below what an int holds. */
        private static final int HUGE = 1000000;

        final Tape tape;
        final Race draft = new Race();
        int fault = 0;
        int faultPlace = NONE;
        int at = 0;
        int kind = END;
        int tokenPlace = 0;
        int value = 0;

        Reader(Tape tape) {
            this.tape = tape;
        }

        /** Whether it is a RACE without FAULT (or none). */
        boolean readTape() {
            draft.wipe();
            fault = 0;
            faultPlace = NONE;
            at = 0;
            takeToken();
            for (int i = 0; i <= MOST_BYTES && kind != END && fault == 0; i++) {
                readLine();
            }
            return fault == 0;
        }

        private void readLine() {
            if (draft.lines == 0) {
                readRaceLine();
            } else if (isAtWord("boat")) {
                readBoatLine();
            } else if (isAtWord("watcher")) {
                readWatcherLine();
            } else if (isAtWord("show")) {
                readShowLine();
            } else {
                fail(MISPLACED);
            }
            if (fault == 0 && kind != SIGN) {
                fail(MISPLACED);
            }
            if (fault == 0) {
                draft.lines++;
                takeToken();
            }
        }

        private void readRaceLine() {
            takeWord("race");
            takeWord("steps");
            draft.steps = takeNumber(1, MOST_STEPS);
            takeWord("law");
            draft.law = takeNumber(0, LAW_COUNT - 1);
            takeWord("goal");
            draft.goal = takeNumber(1, MOST_GOAL);
            takeWord("odds");
            draft.odds = takeNumber(0, MOST_ODDS);
        }

        private void readBoatLine() {
            takeKind(draft.boats);
            takeWord("at");
            int start = takeNumber(0, MOST_START);
            takeWord("needs");
            int needs = takeNumber(1, MOST_NEEDS);
            if (fault == 0) {
                draft.addBoat(start, needs);
            }
        }

        private void readWatcherLine() {
            takeKind(draft.watchers);
            takeWord("eyes");
            int eyes = takeNumber(1, MOST_EYES);
            takeWord("sees");
            int first = takeNumber(0, draft.boats - 1);
            takeWord("to");
            int last = takeNumber(first, draft.boats - 1);
            takeWord("on");
            int told = takeNumber(first, last);
            if (fault == 0) {
                draft.addWatcher(eyes, first, last, told);
            }
        }

        private void readShowLine() {
            takeKind(draft.shows);
            int lure = takeNumber(1, MOST_LURE);
            takeWord("at");
            int step = takeNumber(0, MOST_STEPS - 1);
            if (fault == 0) {
                draft.addShow(lure, step);
            }
        }

        /** Goes behind the word of a LINE's kind, if there is room for one more of it. */
        private void takeKind(int soFar) {
            if (soFar >= MOST) {
                fail(TOO_MANY);
            } else {
                takeToken();
            }
        }

        private void takeWord(String word) {
            if (fault != 0) {
                return;
            }
            if (isAtWord(word)) {
                takeToken();
            } else {
                fail(MISPLACED);
            }
        }

        private int takeNumber(int low, int high) {
            if (fault != 0) {
                return 0;
            }
            if (kind != NUMBER) {
                fail(MISPLACED);
                return 0;
            }
            int number = value;
            if (number < low || number > high) {
                fail(OUT_OF_BOUNDS);
                return 0;
            }
            takeToken();
            return number;
        }

        private void fail(int what) {
            if (fault == 0) {
                fault = what;
                faultPlace = tokenPlace;
            }
        }

        private boolean isAtWord(String word) {
            if (kind != WORD || at - tokenPlace != word.length()) {
                return false;
            }
            for (int i = 0; i < word.length(); i++) {
                if (tape.bytes[tokenPlace + i] != word.charAt(i)) {
                    return false;
                }
            }
            return true;
        }

        private void takeToken() {
            while (at < tape.length && isBlank(tape.bytes[at])) {
                at++;
            }
            tokenPlace = at;
            if (at >= tape.length) {
                kind = END;
            } else if (isLetter(tape.bytes[at])) {
                kind = WORD;
                passWord();
            } else if (isDigit(tape.bytes[at])) {
                kind = NUMBER;
                passNumber();
            } else {
                kind = tape.bytes[at] == ';' ? SIGN : OTHER;
                at++;
            }
        }

        private void passWord() {
            while (at < tape.length && isLetter(tape.bytes[at])) {
                at++;
            }
        }

        private void passNumber() {
            value = 0;
            while (at < tape.length && isDigit(tape.bytes[at])) {
                value = Math.min(HUGE, value * 10 + (tape.bytes[at] - '0'));
                at++;
            }
        }

        private static boolean isBlank(int sign) {
            return sign == 32 || sign == 10;
        }

        private static boolean isLetter(int sign) {
            return sign >= 'a' && sign <= 'z';
        }

        private static boolean isDigit(int sign) {
            return sign >= '0' && sign <= '9';
        }
    }

    /** What is told of a RACE, and the acts so far; no LINES: there is none. */
    private static final class Race {
        int steps = 0;
        int law = 0;
        int goal = 0;
        int odds = 0;
        int lines = 0;
        int boats = 0;
        int watchers = 0;
        int shows = 0;
        int acts = 0;
        final int[] starts = new int[MOST];
        final int[] needs = new int[MOST];
        final int[] eyes = new int[MOST];
        final int[] firstSeen = new int[MOST];
        final int[] lastSeen = new int[MOST];
        final int[] told = new int[MOST];
        final int[] lures = new int[MOST];
        final int[] lureSteps = new int[MOST];
        final int[] actWatchers = new int[MOST_ACTS];
        /** NONE where the WATCHER sneezes. */
        final int[] actBoats = new int[MOST_ACTS];
        final int[] actSteps = new int[MOST_ACTS];

        void wipe() {
            steps = 0;
            law = 0;
            goal = 0;
            odds = 0;
            lines = 0;
            boats = 0;
            watchers = 0;
            shows = 0;
            acts = 0;
        }

        void copyFrom(Race other) {
            steps = other.steps;
            law = other.law;
            goal = other.goal;
            odds = other.odds;
            lines = other.lines;
            boats = other.boats;
            watchers = other.watchers;
            shows = other.shows;
            acts = other.acts;
            System.arraycopy(other.starts, 0, starts, 0, MOST);
            System.arraycopy(other.needs, 0, needs, 0, MOST);
            System.arraycopy(other.eyes, 0, eyes, 0, MOST);
            System.arraycopy(other.firstSeen, 0, firstSeen, 0, MOST);
            System.arraycopy(other.lastSeen, 0, lastSeen, 0, MOST);
            System.arraycopy(other.told, 0, told, 0, MOST);
            System.arraycopy(other.lures, 0, lures, 0, MOST);
            System.arraycopy(other.lureSteps, 0, lureSteps, 0, MOST);
            System.arraycopy(other.actWatchers, 0, actWatchers, 0, MOST_ACTS);
            System.arraycopy(other.actBoats, 0, actBoats, 0, MOST_ACTS);
            System.arraycopy(other.actSteps, 0, actSteps, 0, MOST_ACTS);
        }

        void addBoat(int start, int need) {
            if (boats < MOST) {
                starts[boats] = start;
                needs[boats] = need;
                boats++;
            }
        }

        void addWatcher(int eyeCount, int first, int last, int boat) {
            if (watchers < MOST) {
                eyes[watchers] = eyeCount;
                firstSeen[watchers] = first;
                lastSeen[watchers] = last;
                told[watchers] = boat;
                watchers++;
            }
        }

        void addShow(int lure, int step) {
            if (shows < MOST) {
                lures[shows] = lure;
                lureSteps[shows] = step;
                shows++;
            }
        }

        void addAct(int watcher, int boat, int step) {
            if (acts < MOST_ACTS) {
                actWatchers[acts] = watcher;
                actBoats[acts] = boat;
                actSteps[acts] = step;
                acts++;
            }
        }

        boolean exists() {
            return lines > 0;
        }

        boolean hasBoat(long boat) {
            return boat >= 0 && boat < boats;
        }

        boolean hasWatcher(int watcher) {
            return watcher >= 0 && watcher < watchers;
        }

        boolean hasShow(int show) {
            return show >= 0 && show < shows;
        }

        boolean hasStep(long step) {
            return exists() && step >= 0 && step <= steps;
        }

        /** A STEP ahead of the last. */
        boolean hasEarlyStep(int step) {
            return exists() && step >= 0 && step < steps;
        }

        boolean sees(int watcher, int boat) {
            return firstSeen[watcher] <= boat && boat <= lastSeen[watcher];
        }
    }

    /** How a RACE goes: prepared as told, changed by the one who asks, then sailed. */
    private static final class Course {
        final Race race;
        int law = 0;
        final int[] starts = new int[MOST];
        final int[] needs = new int[MOST];
        /** LOOKS: the BOATS of the WATCHERS at first. */
        final int[] firstLooks = new int[MOST];
        /** The BOATS told by acts, NONE where there is no act. */
        final int[][] actLooks = new int[MOST_STEPS + 1][MOST];
        final int[] awake = new int[MOST_STEPS + 1];
        final int[][] places = new int[MOST_STEPS + 1][MOST];
        final int[][] looks = new int[MOST_STEPS + 1][MOST];
        final int[][] eyes = new int[MOST_STEPS + 1][MOST];

        Course(Race race) {
            this.race = race;
        }

        void prepare() {
            prepareWithout(NONE);
        }

        void prepareWithout(int show) {
            law = race.law;
            System.arraycopy(race.starts, 0, starts, 0, MOST);
            System.arraycopy(race.needs, 0, needs, 0, MOST);
            System.arraycopy(race.told, 0, firstLooks, 0, MOST);
            for (int step = 0; step <= race.steps; step++) {
                for (int watcher = 0; watcher < race.watchers; watcher++) {
                    actLooks[step][watcher] = NONE;
                }
            }
            for (int step = 0; step <= MOST_STEPS; step++) {
                awake[step] = (1 << race.watchers) - 1;
            }
            for (int i = 0; i < race.shows; i++) {
                if (i != show) {
                    draw(race.lureSteps[i], race.lures[i]);
                }
            }
            prepareActs();
        }

        private void prepareActs() {
            for (int i = 0; i < race.acts; i++) {
                int step = race.actSteps[i];
                int watcher = race.actWatchers[i];
                if (race.actBoats[i] == NONE) {
                    awake[step] &= ~(1 << watcher);
                } else {
                    actLooks[step][watcher] = race.actBoats[i];
                }
            }
        }

        /** A SHOW besides draws away the eyes that are no more than its lure. */
        void draw(int step, int lure) {
            for (int watcher = 0; watcher < race.watchers; watcher++) {
                if (race.eyes[watcher] <= lure) {
                    awake[step] &= ~(1 << watcher);
                }
            }
        }

        void drawKingfishers(int stepBits) {
            for (int step = 0; step < race.steps; step++) {
                if ((stepBits >> step & 1) == 1) {
                    draw(step, KINGFISHER_LURE);
                }
            }
        }

        /** The WATCHERS of a set sneeze at all STEPS. */
        void hush(int set) {
            for (int step = 0; step <= MOST_STEPS; step++) {
                awake[step] &= ~set;
            }
        }

        void startLooks() {
            System.arraycopy(race.firstSeen, 0, firstLooks, 0, MOST);
        }

        /** Goes on to the next greater row of LOOKS; false behind the last. */
        boolean nextLooks() {
            for (int watcher = race.watchers - 1; watcher >= 0; watcher--) {
                if (firstLooks[watcher] < race.lastSeen[watcher]) {
                    firstLooks[watcher]++;
                    return true;
                }
                firstLooks[watcher] = race.firstSeen[watcher];
            }
            return false;
        }

        int sailToWinner() {
            sail(race.steps);
            return winner();
        }

        void sail(int lastStep) {
            for (int boat = 0; boat < race.boats; boat++) {
                places[0][boat] = Math.min(starts[boat], race.goal);
            }
            for (int watcher = 0; watcher < race.watchers; watcher++) {
                int byAct = actLooks[0][watcher];
                looks[0][watcher] = byAct == NONE ? firstLooks[watcher] : byAct;
            }
            for (int step = 0; step < lastStep; step++) {
                countEyes(step);
                go(step);
                turn(step + 1);
            }
        }

        private void countEyes(int step) {
            int[] on = eyes[step];
            for (int boat = 0; boat < race.boats; boat++) {
                on[boat] = 0;
            }
            for (int watcher = 0; watcher < race.watchers; watcher++) {
                if ((awake[step] >> watcher & 1) == 1) {
                    on[looks[step][watcher]] += race.eyes[watcher];
                }
            }
        }

        private void go(int step) {
            for (int boat = 0; boat < race.boats; boat++) {
                int place = places[step][boat] + pace(boat, step);
                places[step + 1][boat] = Math.min(place, race.goal);
            }
        }

        private int pace(int boat, int step) {
            if (needs[boat] < 1) {
                return 0;
            }
            return Math.min(MOST_PACE, eyes[step][boat] / needs[boat]);
        }

        private void turn(int step) {
            for (int watcher = 0; watcher < race.watchers; watcher++) {
                int byAct = actLooks[step][watcher];
                looks[step][watcher] = byAct == NONE ? turned(watcher, step) : byAct;
            }
        }

        private int turned(int watcher, int step) {
            int before = looks[step - 1][watcher];
            int first = race.firstSeen[watcher];
            int last = race.lastSeen[watcher];
            switch (law) {
                case 1:
                    return farthest(step, first, last);
                case 2:
                    return leastFar(step, first, last);
                case 3:
                    return before >= first && before < last ? before + 1 : first;
                default:
                    return before;
            }
        }

        private int farthest(int step, int first, int last) {
            int best = first;
            for (int boat = first + 1; boat <= last; boat++) {
                if (places[step][boat] > places[step][best]) {
                    best = boat;
                }
            }
            return best;
        }

        private int leastFar(int step, int first, int last) {
            int best = first;
            for (int boat = first + 1; boat <= last; boat++) {
                if (places[step][boat] < places[step][best]) {
                    best = boat;
                }
            }
            return best;
        }

        int leader(int step) {
            return race.boats == 0 ? NONE : farthest(step, 0, race.boats - 1);
        }

        int last(int step) {
            return race.boats == 0 ? NONE : leastFar(step, 0, race.boats - 1);
        }

        boolean isHome(int boat, int step) {
            return places[step][boat] >= race.goal;
        }

        int homeStep(int boat) {
            for (int step = 0; step <= race.steps; step++) {
                if (isHome(boat, step)) {
                    return step;
                }
            }
            return NONE;
        }

        int winner() {
            for (int step = 0; step <= race.steps; step++) {
                for (int boat = 0; boat < race.boats; boat++) {
                    if (isHome(boat, step)) {
                        return boat;
                    }
                }
            }
            return NONE;
        }

        boolean isBecalmed(int boat, int step) {
            return !isHome(boat, step) && pace(boat, step) == 0;
        }

        int calmSteps(int boat) {
            int bits = 0;
            for (int step = 0; step < race.steps; step++) {
                if (isBecalmed(boat, step)) {
                    bits |= 1 << step;
                }
            }
            return bits;
        }

        int lookersAt(int boat, int step) {
            int bits = 0;
            for (int watcher = 0; watcher < race.watchers; watcher++) {
                if (looks[step][watcher] == boat) {
                    bits |= 1 << watcher;
                }
            }
            return bits;
        }

        int stepsOn(int watcher, int boat) {
            int count = 0;
            for (int step = 0; step <= race.steps; step++) {
                if (looks[step][watcher] == boat) {
                    count++;
                }
            }
            return count;
        }

        /** How many BOATS stand ahead of one in the order of a STEP. */
        int rank(int boat, int step) {
            int ahead = 0;
            for (int other = 0; other < race.boats; other++) {
                int gap = places[step][other] - places[step][boat];
                if (gap > 0 || gap == 0 && other < boat) {
                    ahead++;
                }
            }
            return ahead;
        }
    }

    /** What all LOOKS come to, BOAT by BOAT; kept, since it is dear, till the RACE or its acts change. */
    private static final class Survey {
        final Race race;
        final Course course;
        boolean stale = true;
        final int[] wayCounts = new int[MOST];
        final int[] fewestOthers = new int[MOST];
        final int[] soonestHomes = new int[MOST];
        final int[] farthest = new int[MOST];
        final int[][] plans = new int[MOST][MOST];

        Survey(Race race, Course course) {
            this.race = race;
            this.course = course;
        }

        void makeIfStale() {
            if (!stale) {
                return;
            }
            stale = false;
            forget();
            course.prepare();
            course.startLooks();
            boolean more = true;
            for (int i = 0; i < MOST_LOOKS && more; i++) {
                noteWinner(course.sailToWinner());
                noteHomes();
                more = course.nextLooks();
            }
        }

        private void forget() {
            for (int boat = 0; boat < MOST; boat++) {
                wayCounts[boat] = 0;
                fewestOthers[boat] = NONE;
                soonestHomes[boat] = NONE;
                farthest[boat] = 0;
                for (int watcher = 0; watcher < MOST; watcher++) {
                    plans[boat][watcher] = NONE;
                }
            }
        }

        private void noteWinner(int boat) {
            if (boat < 0 || boat >= MOST) {
                return;
            }
            if (wayCounts[boat] == 0) {
                System.arraycopy(course.firstLooks, 0, plans[boat], 0, MOST);
            }
            wayCounts[boat]++;
            int others = othersThanTold();
            if (fewestOthers[boat] == NONE || others < fewestOthers[boat]) {
                fewestOthers[boat] = others;
            }
        }

        private int othersThanTold() {
            int others = 0;
            for (int watcher = 0; watcher < race.watchers; watcher++) {
                if (course.firstLooks[watcher] != race.told[watcher]) {
                    others++;
                }
            }
            return others;
        }

        private void noteHomes() {
            for (int boat = 0; boat < race.boats; boat++) {
                farthest[boat] = Math.max(farthest[boat], course.places[race.steps][boat]);
                int home = course.homeStep(boat);
                if (home != NONE && (soonestHomes[boat] == NONE || home < soonestHomes[boat])) {
                    soonestHomes[boat] = home;
                }
            }
        }
    }

    /** The LOOKS that fit a SLOT's row, told by WATCHERS and their BOATS; kept till something changes. */
    private static final class Seen {
        final Race race;
        final Course course;
        /** Whose row was counted; NONE: it must be counted again. */
        int slot = NONE;
        int total = 0;
        final int[][] tallies = new int[MOST][MOST];

        Seen(Race race, Course course) {
            this.race = race;
            this.course = course;
        }

        void makeIfStale(int asked, Row row) {
            if (slot == asked) {
                return;
            }
            slot = asked;
            forget();
            int lastStep = row.lastStepTold(race);
            course.prepare();
            course.startLooks();
            boolean more = true;
            for (int i = 0; i < MOST_LOOKS && more; i++) {
                course.sail(lastStep);
                if (row.agreesWith(course)) {
                    tally();
                }
                more = course.nextLooks();
            }
        }

        private void forget() {
            total = 0;
            for (int watcher = 0; watcher < MOST; watcher++) {
                for (int boat = 0; boat < MOST; boat++) {
                    tallies[watcher][boat] = 0;
                }
            }
        }

        private void tally() {
            total++;
            for (int watcher = 0; watcher < race.watchers; watcher++) {
                tallies[watcher][course.firstLooks[watcher]]++;
            }
        }

        int boatsOf(int watcher) {
            int bits = 0;
            for (int boat = 0; boat < MOST; boat++) {
                if (tallies[watcher][boat] > 0) {
                    bits |= 1 << boat;
                }
            }
            return bits;
        }

        int worstOf(int watcher) {
            int worst = 0;
            for (int boat = 0; boat < MOST; boat++) {
                worst = Math.max(worst, tallies[watcher][boat]);
            }
            return worst;
        }

        int bestAsked() {
            int best = NONE;
            int fewest = total;
            for (int watcher = 0; watcher < race.watchers; watcher++) {
                int worst = worstOf(watcher);
                if (worst < fewest) {
                    best = watcher;
                    fewest = worst;
                }
            }
            return best;
        }
    }

    /** SHARE: what each set of WATCHERS is worth for a BOAT. */
    private static final class Shares {
        final Race race;
        final Course course;
        final int[] worth = new int[1 << MOST];

        Shares(Race race, Course course) {
            this.race = race;
            this.course = course;
        }

        void makeFor(int boat) {
            for (int set = 0; set < 1 << race.watchers; set++) {
                course.prepare();
                course.hush(~set);
                course.sail(race.steps);
                worth[set] = course.places[race.steps][boat] - course.places[0][boat];
            }
        }

        /** What a WATCHER has in all orders together. */
        int sumOf(int watcher) {
            int sum = 0;
            for (int set = 0; set < 1 << race.watchers; set++) {
                if ((set >> watcher & 1) == 0) {
                    int ahead = Integer.bitCount(set);
                    int orders = FACTORIALS[ahead] * FACTORIALS[race.watchers - 1 - ahead];
                    sum += orders * (worth[set | 1 << watcher] - worth[set]);
                }
            }
            return sum;
        }
    }

    /** GAME: two WATCHERS who LOOK as they like. */
    private static final class Game {
        final Race race;
        final Course course;
        final int[][] gets = new int[MOST][MOST];
        final int[][] otherGets = new int[MOST][MOST];
        int restCount = 0;
        int firstRest = NONE;

        Game(Race race, Course course) {
            this.race = race;
            this.course = course;
        }

        void play(int watcher, int other) {
            fill(watcher, other);
            restCount = 0;
            firstRest = NONE;
            for (int a = race.firstSeen[watcher]; a <= race.lastSeen[watcher]; a++) {
                for (int b = race.firstSeen[other]; b <= race.lastSeen[other]; b++) {
                    if (gets[a][b] >= mostAgainst(watcher, b) && otherGets[a][b] >= mostBeside(other, a)) {
                        firstRest = restCount == 0 ? 10 * a + b : firstRest;
                        restCount++;
                    }
                }
            }
        }

        private void fill(int watcher, int other) {
            course.prepare();
            for (int a = race.firstSeen[watcher]; a <= race.lastSeen[watcher]; a++) {
                for (int b = race.firstSeen[other]; b <= race.lastSeen[other]; b++) {
                    course.firstLooks[watcher] = a;
                    course.firstLooks[other] = b;
                    course.sail(race.steps);
                    gets[a][b] = course.places[race.steps][race.told[watcher]];
                    otherGets[a][b] = course.places[race.steps][race.told[other]];
                }
            }
        }

        private int mostAgainst(int watcher, int b) {
            int most = 0;
            for (int a = race.firstSeen[watcher]; a <= race.lastSeen[watcher]; a++) {
                most = Math.max(most, gets[a][b]);
            }
            return most;
        }

        private int mostBeside(int other, int a) {
            int most = 0;
            for (int b = race.firstSeen[other]; b <= race.lastSeen[other]; b++) {
                most = Math.max(most, otherGets[a][b]);
            }
            return most;
        }
    }

    /** What a SLOT has. */
    private static final class Row {
        final long[] numbers = new long[MOST_NUMBERS];
        boolean kept = false;
        int width = 0;
        int size = 0;

        void lay(int newWidth, int newSize) {
            kept = true;
            width = newWidth;
            size = newSize;
            for (int i = 0; i < size; i++) {
                numbers[i] = 0;
            }
        }

        void put(int i, long v) {
            if (width == 0) {
                numbers[i] = (byte) v;
            } else if (width == 1) {
                numbers[i] = (short) v;
            } else if (width == 2) {
                numbers[i] = (int) v;
            } else {
                numbers[i] = v;
            }
        }

        /** Asked by differences, as a sum of two ints might wrap around. */
        boolean hasSpan(int from, int n) {
            return from >= 0 && n >= 0 && from <= size && n <= size - from;
        }

        /** Whether it is three numbers each: a BOAT, a STEP, how far. */
        boolean tellsPlaces(Race race) {
            if (size % 3 != 0) {
                return false;
            }
            for (int i = 0; i + 2 < size; i += 3) {
                if (!race.hasBoat(numbers[i]) || !race.hasStep(numbers[i + 1])
                        || numbers[i + 2] < 0 || numbers[i + 2] > MOST_GOAL) {
                    return false;
                }
            }
            return true;
        }

        /** The last STEP that the row speaks of: no need to sail farther. */
        int lastStepTold(Race race) {
            int last = 0;
            for (int i = 0; i + 2 < size; i += 3) {
                last = Math.max(last, (int) numbers[i + 1]);
            }
            return Math.min(last, race.steps);
        }

        /** Only of a row that tellsPlaces. */
        boolean agreesWith(Course course) {
            for (int i = 0; i + 2 < size; i += 3) {
                int boat = (int) numbers[i];
                int step = (int) numbers[i + 1];
                if (course.places[step][boat] != numbers[i + 2]) {
                    return false;
                }
            }
            return true;
        }
    }
}
