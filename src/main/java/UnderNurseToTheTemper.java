/** Under-nurse to the Duke's temper; what each call promises stands in the document. */
public final class UnderNurseToTheTemper {
    public static final int NONE = -1;

    private static final int FINE = 0;
    private static final int BAD = -2;
    private static final int OTHER = -3;
    private static final int NOTHING = -4;
    private static final int STUCK = -5;
    private static final int FULL = -6;

    private static final int MEETING = 10;

    private static final int KINDS = 6;
    private static final int KEEPER = 0;
    private static final int SINGER = 1;
    private static final int FEEDER = 2;
    private static final int NURSE = 3;
    private static final int BRAVE = 4;
    private static final int COWARD = 5;
    /** For each KIND the one that it is under. */
    private static final int[] ABOVE = {NONE, KEEPER, KEEPER, SINGER, FEEDER, KEEPER};

    private static final int RAGE = 0;
    private static final int CALM = 1;
    private static final int GROWTH = 2;
    private static final int BAR = 3;
    private static final int HOUR = 4;
    private static final int MEASURES = 5;
    private static final int[] LEAST = {0, 0, 1, 1, 0};
    private static final int[] MOST = {99, 99, 9, 99, 9999};

    private static final int MOST_RAGE = 99;
    private static final int MOST_CALM = 99;
    private static final int MOST_GROWTH = 9;
    private static final int MOST_HOUR = 9999;
    private static final int MOST_TOLD_HOUR = 999;
    private static final int MOST_KEEPERS = 8;
    private static final int MOST_SKILL = 9;
    private static final int MOST_NERVE = 40;

    private static final int SHELF_COUNT = 8;
    private static final int SORTS = 5;
    private static final int MOST_ELEMENTS = 40;
    private static final int MOST_TWOS = 20;
    /** A SHELF with a KEEPER is told by this and his number. */
    private static final int SHOWN = 10;

    private static final int TAPE_SIZE = 250;
    private static final int FAULT_BASE = -20;
    private static final int MOST_DIGITS = 3;

    private static final int LONG_WATCH = 200;
    private static final int SHORT_WATCH = 48;
    private static final int DAY = 24;
    private static final int MOST_SEARCHED = 4;
    private static final int MOST_CHANCE_HOURS = 3;
    private static final int MOST_DRAWN = 60;
    private static final int REFUSAL_SORTS = 5;
    /** Where the least of something is looked for, it begins above all that can be found. */
    private static final int MORE_THAN_ANY = 1000000;

    private final Temper now = new Temper();
    private final Temper trial = new Temper();
    private final Temper rival = new Temper();
    private final Temper keptTemper = new Temper();
    private final Staff staff = new Staff();
    private final Staff trialStaff = new Staff();
    private final Staff keptStaff = new Staff();
    private final Shelves shelves = new Shelves();
    private final Tape tape = new Tape();
    private final Walk walk = new Walk();
    private final Search search = new Search();
    private final Tally tally = new Tally();
    /** ORDERS, or twos, that the call in hand looks at. */
    private final int[] plan = new int[SHORT_WATCH];
    /** Which RAGES fit by the twos that the call in hand looks at. */
    private final boolean[] fitting = new boolean[MOST_RAGE + 1];
    private final int[] refusals = new int[REFUSAL_SORTS];
    private int seedNow = 1;
    private int keptSeed = 1;
    private boolean isKept = false;

    public UnderNurseToTheTemper() {
    }

    // ---- SHELVES ----

    public int row(int s, int sort, int n) {
        if (!isShelf(s) || !isWithin(sort, 0, SORTS - 1) || !isWithin(n, 0, MOST_ELEMENTS)) {
            return refused(BAD);
        }
        shelves.placeRow(s, sort, n);
        return 1;
    }

    public int set(int s, int i, long v) {
        int fault = rowFault(s, true);
        if (fault != FINE) {
            return refused(fault);
        }
        if (!shelves.hasElement(s, i)) {
            return refused(BAD);
        }
        shelves.putElement(s, i, v);
        return 1;
    }

    public int copy(int p, int q, int i, int j, int n) {
        if (!isShelf(p) || !isShelf(q)) {
            return refused(BAD);
        }
        if (shelves.holdsKeeper(p) || shelves.holdsKeeper(q) || shelves.areOfTwoSorts(p, q)) {
            return refused(OTHER);
        }
        if (!shelves.holdsRow(p) || !shelves.holdsRow(q)) {
            return refused(NOTHING);
        }
        if (!shelves.hasStretch(p, i, n) || !shelves.hasStretch(q, j, n)) {
            return refused(BAD);
        }
        shelves.moveStretch(p, q, i, j, n);
        return n;
    }

    public long element(int s, int i) {
        return shelves.elementAt(s, i);
    }

    public int holds(int s) {
        return shelves.contentOf(s);
    }

    public int show(int s, int keeper) {
        if (!isShelf(s) || keeper != NONE && !staff.has(keeper)) {
            return refused(BAD);
        }
        shelves.placeKeeper(s, keeper);
        return 1;
    }

    public int says(int s, int kind) {
        if (!isShelf(s) || !isWithin(kind, 0, KINDS - 1)) {
            return refused(BAD);
        }
        if (shelves.holdsRow(s)) {
            return refused(OTHER);
        }
        if (!shelves.holdsKeeper(s)) {
            return refused(NOTHING);
        }
        int shown = shelves.contentOf(s) - SHOWN;
        if (!isUnder(staff.kindOf(shown), kind)) {
            return refused(OTHER);
        }
        return kind == KEEPER ? staff.nerveOf(shown) : staff.soothed(shown, now);
    }

    // ---- KEEPERS, THE HOUSE, THE TAPE ----

    public int keeper(int kind, int a, int nerve) {
        if (!isWithin(kind, 0, KINDS - 1) || !isWithin(a, 0, MOST_SKILL) || !isWithin(nerve, 0, MOST_NERVE)) {
            return refused(BAD);
        }
        if (staff.isFull()) {
            return refused(FULL);
        }
        return staff.add(kind, a, nerve);
    }

    public int nerve(int keeper, int v) {
        if (!staff.has(keeper) || !isWithin(v, 0, MOST_NERVE)) {
            return refused(BAD);
        }
        int ahead = staff.nerveOf(keeper);
        staff.putNerve(keeper, v);
        return ahead;
    }

    public int tell(int what, int v) {
        if (!mayBe(what, v)) {
            return refused(BAD);
        }
        int ahead = now.measure(what);
        now.putMeasure(what, v);
        return ahead;
    }

    public int feed(int letter) {
        if (!isWithin(letter, 0, 255)) {
            return refused(BAD);
        }
        if (tape.isFull()) {
            return refused(FULL);
        }
        return tape.add(letter);
    }

    public int wipe() {
        return tape.clear();
    }

    public int house() {
        // Read into copies: a text with a FAULT leaves all as it was.
        trial.become(now);
        trialStaff.become(staff);
        int answer = tape.read(trial, trialStaff);
        tape.clear();
        if (answer < 0) {
            refused(BAD);
            return answer;
        }
        now.become(trial);
        staff.become(trialStaff);
        return answer;
    }

    public int keeperOf(int keeper, int what) {
        if (!staff.has(keeper) || !isWithin(what, 0, 3)) {
            return refused(BAD);
        }
        switch (what) {
            case 0: return staff.kindOf(keeper);
            case 1: return staff.skillOf(keeper);
            case 2: return staff.nerveOf(keeper);
            default: return staff.fledOf(keeper);
        }
    }

    // ---- AN HOUR ----

    public int fright() {
        return now.alarm();
    }

    public int stays(int keeper) {
        if (!staff.has(keeper)) {
            return refused(BAD);
        }
        return staff.remains(keeper, now) ? 1 : 0;
    }

    public int staying() {
        return staff.bitsRemaining(now);
    }

    public int after(int order, int what) {
        if (!isOrder(order) || !isWithin(what, 0, 3)) {
            return refused(BAD);
        }
        tryHour(order);
        if (what == 3) {
            return trial.harm ? 1 : 0;
        }
        return trial.measure(what);
    }

    public int bestNow(int what) {
        if (!isWithin(what, RAGE, GROWTH)) {
            return refused(BAD);
        }
        int chosen = NONE;
        int lowest = MORE_THAN_ANY;
        for (int i = 0; i < orderCount(); i++) {
            tryHour(staff.orderAt(i));
            int worth = what == CALM ? -trial.calm : trial.measure(what);
            if (worth < lowest) {
                lowest = worth;
                chosen = staff.orderAt(i);
            }
        }
        return chosen;
    }

    // ---- ROSTERS ----

    public int behind(int s, int n, int what) {
        int fault = takeRoster(s, n, isWithin(what, 0, 4));
        if (fault != FINE) {
            return refused(fault);
        }
        walk.along(plan, n, now, staff);
        switch (what) {
            case 3: return walk.harmCount;
            case 4: return walk.fledCount;
            default: return walk.at.measure(what);
        }
    }

    public int unkept(int s, int n) {
        int fault = takeRoster(s, n, true);
        if (fault != FINE) {
            return refused(fault);
        }
        walk.along(plan, n, now, staff);
        return walk.firstFled;
    }

    public int judge(int s, int n) {
        int fault = elementsFault(s, n, MOST_ELEMENTS, 1, true);
        if (fault != FINE) {
            return refused(fault);
        }
        return wrongPlace(s, n);
    }

    public int best(int n, int i) {
        if (!isWithin(n, 1, MOST_SEARCHED) || !isWithin(i, -2, n - 1)) {
            return refused(BAD);
        }
        search.run(n, now, staff);
        if (i == -2) {
            return search.bestHarms;
        }
        return i == NONE ? search.bestRage : search.orderOf(i);
    }

    // ---- what fits by who STAYED ----

    public int rages(int s, int n, int what) {
        int fault = takeTwos(s, n, isWithin(what, 0, 2));
        if (fault != FINE) {
            return refused(fault);
        }
        tallyRages(n);
        return tally.told(what);
    }

    public int nerves(int s, int n, int keeper, int what) {
        int fault = takeTwos(s, n, staff.has(keeper) && isWithin(what, 0, 2));
        if (fault != FINE) {
            return refused(fault);
        }
        tally.clear();
        trialStaff.become(staff);
        for (int v = 0; v <= MOST_NERVE; v++) {
            trialStaff.putNerve(keeper, v);
            trial.become(now);
            if (fitsTwos(n, trialStaff)) {
                tally.add(v);
            }
        }
        return tally.told(what);
    }

    public int send(int s, int n) {
        int fault = takeTwos(s, n, true);
        if (fault != FINE) {
            return refused(fault);
        }
        tallyRages(n);
        if (tally.count < 2) {
            return NONE;
        }
        int chosen = NONE;
        int fewest = MORE_THAN_ANY;
        for (int k = 0; k < staff.count; k++) {
            int left = mostLeftBy(k);
            if (left < fewest) {
                fewest = left;
                chosen = k;
            }
        }
        return chosen;
    }

    // ---- one ORDER over and over ----

    public int settles(int order) {
        if (!isOrder(order)) {
            return refused(BAD);
        }
        trial.become(now);
        for (int hours = 1; hours <= LONG_WATCH; hours++) {
            rival.become(trial);
            trial.pass(order, staff);
            if (trial.isLike(rival)) {
                return hours;
            }
        }
        return NONE;
    }

    public int over(int order, int what) {
        if (!isOrder(order) || !isWithin(what, 0, 4)) {
            return refused(BAD);
        }
        walkOver(order);
        switch (what) {
            case 0: return walk.leastRage;
            case 1: return walk.safeHours;
            default: return walk.at.measure(what - 2);
        }
    }

    public int safest() {
        int chosen = NONE;
        int longest = -1;
        for (int i = 0; i < orderCount(); i++) {
            walkOver(staff.orderAt(i));
            if (walk.safeHours > longest) {
                longest = walk.safeHours;
                chosen = staff.orderAt(i);
            }
        }
        return chosen;
    }

    public int odds(int t, int what) {
        if (!isWithin(t, 0, MOST_CHANCE_HOURS) || !isWithin(what, 0, 1)) {
            return refused(BAD);
        }
        if (staff.count <= 0) {
            return refused(STUCK);
        }
        int ways = 1;
        for (int hour = 0; hour < t; hour++) {
            ways = ways * staff.count;
        }
        return what == 0 ? harmOdds(t, ways) : meanRage(t, ways);
    }

    public int flees(int keeper) {
        if (!staff.has(keeper)) {
            return refused(BAD);
        }
        trial.become(now);
        for (int rage = 0; rage <= MOST_RAGE; rage++) {
            trial.rage = rage;
            if (!staff.remains(keeper, trial)) {
                return rage;
            }
        }
        return NONE;
    }

    public int needs(int keeper) {
        if (!staff.has(keeper)) {
            return refused(BAD);
        }
        trialStaff.become(staff);
        for (int v = 0; v <= MOST_NERVE; v++) {
            trialStaff.putNerve(keeper, v);
            if (trialStaff.remains(keeper, now)) {
                return v;
            }
        }
        return NONE;
    }

    public int until(int order, int v) {
        if (!isOrder(order) || !isWithin(v, 0, MOST_RAGE)) {
            return refused(BAD);
        }
        trial.become(now);
        for (int hours = 0; hours <= LONG_WATCH; hours++) {
            if (trial.rage <= v) {
                return hours;
            }
            trial.pass(order, staff);
        }
        return NONE;
    }

    public int first(int one, int other) {
        if (!isOrder(one) || !isOrder(other)) {
            return refused(BAD);
        }
        trial.become(now);
        trial.pass(one, staff);
        trial.pass(other, staff);
        rival.become(now);
        rival.pass(other, staff);
        rival.pass(one, staff);
        if (trial.rage == rival.rage) {
            return 2;
        }
        return trial.rage < rival.rage ? 0 : 1;
    }

    public int meetings() {
        trial.become(now);
        for (int hours = 0; hours <= LONG_WATCH; hours++) {
            if (trial.rage <= trial.calm) {
                return hours;
            }
            trial.pass(MEETING, staff);
        }
        return NONE;
    }

    // ---- all KEEPERS by turns ----

    public int byTurns(int keeper, int n) {
        if (!staff.has(keeper) || !isWithin(n, 0, SHORT_WATCH)) {
            return refused(BAD);
        }
        walkTurns(keeper, n);
        return walk.at.rage;
    }

    public int harms(int keeper, int n) {
        if (!staff.has(keeper) || !isWithin(n, 0, SHORT_WATCH)) {
            return refused(BAD);
        }
        walkTurns(keeper, n);
        return walk.harmCount;
    }

    public int starts() {
        if (staff.count <= 0) {
            return refused(STUCK);
        }
        int chosen = NONE;
        int fewest = MORE_THAN_ANY;
        for (int k = 0; k < staff.count; k++) {
            walkTurns(k, DAY);
            if (walk.harmCount < fewest) {
                fewest = walk.harmCount;
                chosen = k;
            }
        }
        return chosen;
    }

    public int of(int what) {
        if (!isWithin(what, 0, 2)) {
            return refused(BAD);
        }
        if (staff.count <= 0) {
            return refused(STUCK);
        }
        int chosen = 0;
        for (int k = 1; k < staff.count; k++) {
            if (standsOut(k, chosen, what)) {
                chosen = k;
            }
        }
        return chosen;
    }

    // ---- ROSTERS looked at closer ----

    public int way(int s, int n, int what) {
        int fault = takeRoster(s, n, isWithin(what, 0, 2));
        if (fault != FINE) {
            return refused(fault);
        }
        walk.along(plan, n, now, staff);
        switch (what) {
            case 0: return walk.greatestRage;
            case 1: return walk.leastCalm;
            default: return walk.greatestWhen;
        }
    }

    public int matters(int s, int n) {
        int fault = takeRoster(s, n, true);
        if (fault != FINE) {
            return refused(fault);
        }
        if (n == 0) {
            return refused(STUCK);
        }
        int chosen = NONE;
        int most = -1;
        for (int place = 0; place < n; place++) {
            int left = rageWith(n, place, NONE);
            if (left > most) {
                most = left;
                chosen = place;
            }
        }
        return chosen;
    }

    public int instead(int s, int n, int place) {
        int fault = takeRoster(s, n, place >= 0 && place < n);
        if (fault != FINE) {
            return refused(fault);
        }
        int chosen = NONE;
        int least = MORE_THAN_ANY;
        for (int i = 0; i < orderCount(); i++) {
            int left = rageWith(n, place, staff.orderAt(i));
            if (left < least) {
                least = left;
                chosen = staff.orderAt(i);
            }
        }
        return chosen;
    }

    // ---- if something were otherwise ----

    public int better(int one, int other) {
        if (!isOrder(one) || !isOrder(other)) {
            return refused(BAD);
        }
        int count = 0;
        for (int rage = 0; rage <= MOST_RAGE; rage++) {
            if (rageAfter(rage, one) < rageAfter(rage, other)) {
                count++;
            }
        }
        return count;
    }

    public int still(int order) {
        if (!isOrder(order)) {
            return refused(BAD);
        }
        for (int rage = 0; rage <= MOST_RAGE; rage++) {
            if (rageAfter(rage, order) == rage) {
                return rage;
            }
        }
        return NONE;
    }

    public int calmFor(int v) {
        if (!isWithin(v, 0, MOST_RAGE)) {
            return refused(BAD);
        }
        for (int calm = 0; calm <= MOST_CALM; calm++) {
            trial.become(now);
            trial.calm = calm;
            trial.pass(MEETING, staff);
            if (trial.rage <= v) {
                return calm;
            }
        }
        return NONE;
    }

    public int grown(int order) {
        if (!isOrder(order)) {
            return refused(BAD);
        }
        trial.become(now);
        for (int hours = 0; hours <= LONG_WATCH; hours++) {
            if (trial.growth == MOST_GROWTH) {
                return hours;
            }
            trial.pass(order, staff);
        }
        return NONE;
    }

    public int brave(int rage) {
        if (!isWithin(rage, 0, MOST_RAGE)) {
            return refused(BAD);
        }
        trial.become(now);
        trial.rage = rage;
        return staff.bitsRemaining(trial);
    }

    public int ofKind(int kind) {
        if (!isWithin(kind, 0, KINDS - 1)) {
            return refused(BAD);
        }
        int count = 0;
        for (int k = 0; k < staff.count; k++) {
            if (staff.kindOf(k) == kind) {
                count++;
            }
        }
        return count;
    }

    // ---- IN TRUTH ----

    public int order(int order) {
        if (!isOrder(order)) {
            return refused(BAD);
        }
        carryOut(order);
        return now.rage;
    }

    public int done(int s, int n) {
        int fault = takeRoster(s, n, true);
        if (fault != FINE) {
            return refused(fault);
        }
        int count = 0;
        for (int i = 0; i < n && i < plan.length; i++) {
            count += carryOut(plan[i]);
        }
        return count;
    }

    public int drawn(int n) {
        if (!isWithin(n, 1, MOST_DRAWN)) {
            return refused(BAD);
        }
        int count = 0;
        for (int i = 0; i < n; i++) {
            count += carryOut(drawnOrder());
        }
        return count;
    }

    public int seed(int v) {
        int ahead = seedNow;
        seedNow = v;
        return ahead;
    }

    public int image() {
        keptTemper.become(now);
        keptStaff.become(staff);
        keptSeed = seedNow;
        isKept = true;
        return 1;
    }

    public int back() {
        if (!isKept) {
            return refused(STUCK);
        }
        now.become(keptTemper);
        staff.become(keptStaff);
        seedNow = keptSeed;
        shelves.dropKeepersFrom(staff.count);
        return 1;
    }

    public int status(int what) {
        switch (what) {
            case 0: return staff.count;
            case 1: return now.rage;
            case 2: return now.calm;
            case 3: return now.growth;
            case 4: return now.bar;
            case 5: return now.hour;
            case 6: return staff.allFled();
            case 7: return tape.size;
            case 8: return seedNow;
            case 9: return shelves.countHeld();
            default: return refusalsTold(what - 12);
        }
    }

    // ---- REFUSALS ----

    private int refused(int number) {
        int i = BAD - number;
        if (i >= 0 && i < refusals.length) {
            refusals[i]++;
        }
        return number;
    }

    private int refusalsTold(int i) {
        return i >= 0 && i < refusals.length ? refusals[i] : NONE;
    }

    private int rowFault(int s, boolean othersFit) {
        if (!isShelf(s) || !othersFit) {
            return BAD;
        }
        if (shelves.holdsKeeper(s)) {
            return OTHER;
        }
        return shelves.holdsRow(s) ? FINE : NOTHING;
    }

    private int elementsFault(int s, int n, int most, int each, boolean othersFit) {
        int fault = rowFault(s, othersFit && isWithin(n, 0, most));
        if (fault != FINE) {
            return fault;
        }
        return shelves.hasStretch(s, 0, n * each) ? FINE : BAD;
    }

    private static boolean isWithin(int v, int least, int most) {
        return v >= least && v <= most;
    }

    private static boolean isShelf(int s) {
        return isWithin(s, 0, SHELF_COUNT - 1);
    }

    private static boolean mayBe(int what, int v) {
        return isWithin(what, 0, MEASURES - 1) && isWithin(v, LEAST[what], MOST[what]);
    }

    private static boolean isUnder(int kind, int wanted) {
        int above = kind;
        for (int up = 0; up < KINDS; up++) {
            if (above == wanted) {
                return true;
            }
            above = above >= 0 && above < ABOVE.length ? ABOVE[above] : NONE;
        }
        return false;
    }

    /** Long, because a ROW of longs may hold what no int is. */
    private boolean isOrder(long v) {
        return v == NONE || v == MEETING || isKeeper(v);
    }

    private boolean isKeeper(long v) {
        return v >= 0 && v < staff.count;
    }

    private int orderCount() {
        return staff.count + 2;
    }

    // ---- what the call in hand looks at ----

    private int wrongPlace(int s, int n) {
        for (int i = 0; i < n; i++) {
            if (!isOrder(shelves.elementAt(s, i))) {
                return i;
            }
        }
        return NONE;
    }

    private int takeRoster(int s, int n, boolean othersFit) {
        int fault = elementsFault(s, n, MOST_ELEMENTS, 1, othersFit);
        if (fault != FINE) {
            return fault;
        }
        if (wrongPlace(s, n) != NONE) {
            return STUCK;
        }
        takePlan(s, n);
        return FINE;
    }

    private int takeTwos(int s, int n, boolean othersFit) {
        int fault = elementsFault(s, n, MOST_TWOS, 2, othersFit);
        if (fault != FINE) {
            return fault;
        }
        for (int i = 0; i < n; i++) {
            long stayed = shelves.elementAt(s, 2 * i + 1);
            if (!isKeeper(shelves.elementAt(s, 2 * i)) || stayed < 0 || stayed > 1) {
                return STUCK;
            }
        }
        takePlan(s, 2 * n);
        return FINE;
    }

    private void takePlan(int s, int n) {
        for (int i = 0; i < n && i < plan.length; i++) {
            plan[i] = (int) shelves.elementAt(s, i);
        }
    }

    private void walkOver(int order) {
        for (int i = 0; i < plan.length; i++) {
            plan[i] = order;
        }
        walk.along(plan, SHORT_WATCH, now, staff);
    }

    private void walkTurns(int keeper, int n) {
        int next = keeper;
        for (int i = 0; i < n && i < plan.length; i++) {
            plan[i] = next;
            next = next + 1 < staff.count ? next + 1 : 0;
        }
        walk.along(plan, n, now, staff);
    }

    private int rageWith(int n, int place, int order) {
        if (place < 0 || place >= plan.length) {
            return now.rage;
        }
        int own = plan[place];
        plan[place] = order;
        walk.along(plan, n, now, staff);
        plan[place] = own;
        return walk.at.rage;
    }

    private void tryHour(int order) {
        trial.become(now);
        trial.pass(order, staff);
    }

    private int rageAfter(int rage, int order) {
        trial.become(now);
        trial.rage = rage;
        trial.pass(order, staff);
        return trial.rage;
    }

    private void tallyRages(int n) {
        tally.clear();
        for (int rage = 0; rage < fitting.length; rage++) {
            trial.become(now);
            trial.rage = rage;
            fitting[rage] = fitsTwos(n, staff);
            if (fitting[rage]) {
                tally.add(rage);
            }
        }
    }

    private boolean fitsTwos(int n, Staff crew) {
        for (int i = 0; i < n && 2 * i + 1 < plan.length; i++) {
            trial.pass(plan[2 * i], crew);
            boolean stayed = trial.fledKeeper == NONE;
            if (stayed != (plan[2 * i + 1] == 1)) {
                return false;
            }
        }
        return true;
    }

    private int mostLeftBy(int keeper) {
        int staying = 0;
        trial.become(now);
        for (int rage = 0; rage < fitting.length; rage++) {
            trial.rage = rage;
            if (fitting[rage] && staff.remains(keeper, trial)) {
                staying++;
            }
        }
        return Math.max(staying, tally.count - staying);
    }

    private int harmOdds(int t, int ways) {
        int harmed = 0;
        for (int code = 0; code < ways; code++) {
            walkCode(code, t);
            if (walk.harmCount > 0) {
                harmed++;
            }
        }
        return ways > 0 ? 1000000 * harmed / ways : 0;
    }

    private int meanRage(int t, int ways) {
        int sum = 0;
        for (int code = 0; code < ways; code++) {
            walkCode(code, t);
            sum += walk.at.rage;
        }
        return ways > 0 ? 1000 * sum / ways : 0;
    }

    /** A code's digits, to the base of how many KEEPERS there are, are the KEEPERS of the HOURS. */
    private void walkCode(int code, int t) {
        int rest = code;
        for (int hour = 0; hour < t && hour < plan.length && staff.count > 0; hour++) {
            plan[hour] = rest % staff.count;
            rest = rest / staff.count;
        }
        walk.along(plan, t, now, staff);
    }

    private boolean standsOut(int k, int than, int what) {
        switch (what) {
            case 0: return staff.nerveOf(k) > staff.nerveOf(than);
            case 1: return staff.nerveOf(k) < staff.nerveOf(than);
            default: return staff.fledOf(k) > staff.fledOf(than);
        }
    }

    private int carryOut(int order) {
        now.pass(order, staff);
        staff.noteFled(now.fledKeeper);
        return now.harm ? 1 : 0;
    }

    private int drawnOrder() {
        int choices = orderCount();
        seedNow = seedNow * 1103515245 + 12345;
        int draw = choices > 0 ? (seedNow >>> 16) % choices : 0;
        if (draw < staff.count) {
            return draw;
        }
        return draw == staff.count ? NONE : MEETING;
    }

    /** RAGE, CALM and what goes with them, as they are or as they would be. */
    private static final class Temper {
        int rage = 20;
        int calm = 60;
        int growth = 1;
        int bar = 50;
        int hour = 0;
        /** Of the HOUR passed last: whether there was a HARM, and who FLED. */
        boolean harm = false;
        int fledKeeper = NONE;

        void become(Temper other) {
            rage = other.rage;
            calm = other.calm;
            growth = other.growth;
            bar = other.bar;
            hour = other.hour;
        }

        boolean isLike(Temper other) {
            return rage == other.rage && growth == other.growth && calm == other.calm;
        }

        int measure(int what) {
            switch (what) {
                case RAGE: return rage;
                case CALM: return calm;
                case GROWTH: return growth;
                case BAR: return bar;
                default: return hour;
            }
        }

        void putMeasure(int what, int v) {
            switch (what) {
                case RAGE: rage = v; break;
                case CALM: calm = v; break;
                case GROWTH: growth = v; break;
                case BAR: bar = v; break;
                default: hour = v; break;
            }
        }

        int alarm() {
            return rage / 3 + growth;
        }

        void pass(int order, Staff staff) {
            fledKeeper = NONE;
            if (order == MEETING) {
                mix();
            } else if (staff.remains(order, this)) {
                rage = staff.soothed(order, this);
                growIf(staff.feeds(order) && hour % 4 == 0);
            } else {
                fledKeeper = order;
                rage = Math.min(MOST_RAGE, rage + 2 * growth);
                growIf(hour % 12 == 0);
            }
            harm = rage >= bar;
            if (harm) {
                calm = Math.max(0, calm - 1);
            }
            hour = Math.min(MOST_HOUR, hour + 1);
        }

        private void mix() {
            int quarter = (rage - calm) / 4;
            rage -= quarter;
            calm += quarter;
        }

        private void growIf(boolean isDue) {
            if (isDue) {
                growth = Math.min(MOST_GROWTH, growth + 1);
            }
        }
    }

    /** The KEEPERS, as they are or as they would be. */
    private static final class Staff {
        int count = 0;
        private final int[] kinds = new int[MOST_KEEPERS];
        private final int[] skills = new int[MOST_KEEPERS];
        private final int[] courage = new int[MOST_KEEPERS];
        private final int[] flights = new int[MOST_KEEPERS];

        void become(Staff other) {
            count = other.count;
            for (int k = 0; k < MOST_KEEPERS; k++) {
                kinds[k] = other.kinds[k];
                skills[k] = other.skills[k];
                courage[k] = other.courage[k];
                flights[k] = other.flights[k];
            }
        }

        boolean has(int k) {
            return k >= 0 && k < count && k < MOST_KEEPERS;
        }

        boolean isFull() {
            return count >= MOST_KEEPERS;
        }

        int add(int kind, int skill, int nerve) {
            if (count < 0 || count >= MOST_KEEPERS) {
                return NONE;
            }
            kinds[count] = kind;
            skills[count] = skill;
            courage[count] = nerve;
            flights[count] = 0;
            count++;
            return count - 1;
        }

        int kindOf(int k) {
            return has(k) ? kinds[k] : NONE;
        }

        int skillOf(int k) {
            return has(k) ? skills[k] : 0;
        }

        int nerveOf(int k) {
            return has(k) ? courage[k] : 0;
        }

        int fledOf(int k) {
            return has(k) ? flights[k] : 0;
        }

        void putNerve(int k, int v) {
            if (has(k)) {
                courage[k] = v;
            }
        }

        void noteFled(int k) {
            if (has(k)) {
                flights[k]++;
            }
        }

        int allFled() {
            int sum = 0;
            for (int k = 0; k < count; k++) {
                sum += fledOf(k);
            }
            return sum;
        }

        /** The i-th of all ORDERS in the order in which the document prefers them. */
        int orderAt(int i) {
            return i <= count ? i - 1 : MEETING;
        }

        boolean remains(int k, Temper temper) {
            if (!has(k)) {
                return false;
            }
            int alarm = temper.alarm();
            switch (kinds[k]) {
                case SINGER: return courage[k] + skills[k] >= alarm;
                case NURSE: return true;
                case BRAVE: return 2 * courage[k] >= alarm;
                case COWARD: return courage[k] >= alarm && temper.rage < temper.bar;
                default: return courage[k] >= alarm;
            }
        }

        int bitsRemaining(Temper temper) {
            int bits = 0;
            for (int k = 0; k < count; k++) {
                if (remains(k, temper)) {
                    bits |= 1 << k;
                }
            }
            return bits;
        }

        boolean feeds(int k) {
            return has(k) && isUnder(kinds[k], FEEDER);
        }

        /** RAGE behind an HOUR with one, whether or not he would stay for it. */
        int soothed(int k, Temper temper) {
            if (!has(k)) {
                return temper.rage;
            }
            int left = temper.rage - soothing(kinds[k], skills[k], temper);
            return Math.max(0, Math.min(MOST_RAGE, left));
        }

        private static int soothing(int kind, int skill, Temper temper) {
            int song = temper.rage % 2 == 0 ? skill + 3 : skill;
            switch (kind) {
                case KEEPER: return skill;
                case SINGER: return song;
                case NURSE: return song + temper.growth;
                case FEEDER: return temper.rage / 4;
                case BRAVE: return temper.rage / 4 + skill;
                case COWARD: return -skill;
                default: return 0;
            }
        }
    }

    /** What stands in SHELVES. */
    private static final class Shelves {
        /** NONE, a ROW's SORT, or SHOWN and a KEEPER's number. */
        private final int[] contents = {NONE, NONE, NONE, NONE, NONE, NONE, NONE, NONE};
        private final int[] sizes = new int[SHELF_COUNT];
        private final long[][] rows = new long[SHELF_COUNT][MOST_ELEMENTS];

        int contentOf(int s) {
            return s >= 0 && s < SHELF_COUNT ? contents[s] : NONE;
        }

        boolean holdsRow(int s) {
            return isWithin(contentOf(s), 0, SORTS - 1);
        }

        boolean holdsKeeper(int s) {
            return contentOf(s) >= SHOWN;
        }

        boolean areOfTwoSorts(int p, int q) {
            return holdsRow(p) && holdsRow(q) && contentOf(p) != contentOf(q);
        }

        int countHeld() {
            int held = 0;
            for (int s = 0; s < SHELF_COUNT; s++) {
                if (contents[s] != NONE) {
                    held++;
                }
            }
            return held;
        }

        void placeRow(int s, int sort, int n) {
            if (!isShelf(s) || !isWithin(n, 0, MOST_ELEMENTS)) {
                return;
            }
            contents[s] = sort;
            sizes[s] = n;
            for (int i = 0; i < MOST_ELEMENTS; i++) {
                rows[s][i] = 0;
            }
        }

        void placeKeeper(int s, int keeper) {
            if (isShelf(s)) {
                contents[s] = keeper == NONE ? NONE : SHOWN + keeper;
            }
        }

        void dropKeepersFrom(int count) {
            for (int s = 0; s < SHELF_COUNT; s++) {
                if (contents[s] >= SHOWN + count) {
                    contents[s] = NONE;
                }
            }
        }

        boolean hasElement(int s, int i) {
            return holdsRow(s) && i >= 0 && i < sizes[s] && i < MOST_ELEMENTS;
        }

        boolean hasStretch(int s, int i, int n) {
            // The subtraction can't run over, as a sum of i and n could.
            return holdsRow(s) && n >= 0 && i >= 0 && i <= sizes[s] && n <= sizes[s] - i;
        }

        long elementAt(int s, int i) {
            return hasElement(s, i) ? rows[s][i] : 0;
        }

        void putElement(int s, int i, long v) {
            if (hasElement(s, i)) {
                rows[s][i] = cutTo(contents[s], v);
            }
        }

        void moveStretch(int p, int q, int i, int j, int n) {
            if (hasStretch(p, i, n) && hasStretch(q, j, n)) {
                System.arraycopy(rows[p], i, rows[q], j, n);
            }
        }

        private static long cutTo(int sort, long v) {
            switch (sort) {
                case 0: return (byte) v;
                case 1: return (short) v;
                case 2: return (int) v;
                case 4: return v != 0 ? 1 : 0;
                default: return v;
            }
        }
    }

    /** THE TAPE, and the reading of a HOUSE from it. */
    private static final class Tape {
        private static final int END = 0;
        private static final int WORD = 1;
        private static final int NUMBER = 2;
        private static final int SIGN = 3;
        private static final int STRANGE = 4;

        int size = 0;
        private final int[] letters = new int[TAPE_SIZE];
        /** The TOKEN in hand: its sort, its first place, the place behind it, a NUMBER's value. */
        private int token = END;
        private int start = 0;
        private int end = 0;
        private int value = 0;

        boolean isFull() {
            return size >= TAPE_SIZE;
        }

        int add(int letter) {
            if (size >= 0 && size < TAPE_SIZE) {
                letters[size] = letter;
                size++;
            }
            return size;
        }

        int clear() {
            int ahead = size;
            size = 0;
            return ahead;
        }

        /** How many STATEMENTS came to the temper and the staff, or the answer for the FAULT. */
        int read(Temper temper, Staff staff) {
            end = 0;
            for (int statements = 1; statements <= TAPE_SIZE; statements++) {
                takeToken();
                if (!readStatement(temper, staff)) {
                    return FAULT_BASE - start;
                }
                takeToken();
                if (token == END) {
                    return statements;
                }
                if (token != SIGN) {
                    return FAULT_BASE - start;
                }
            }
            return FAULT_BASE - start;
        }

        private boolean readStatement(Temper temper, Staff staff) {
            if (token != WORD) {
                return false;
            }
            if (spells("keeper")) {
                return readKeeper(staff);
            }
            if (spells("nerve")) {
                return readNerve(staff);
            }
            return readMeasure(temper, spelledMeasure());
        }

        private boolean readKeeper(Staff staff) {
            // Ahead of its numbers, so that the FAULT is the word's own place.
            if (staff.isFull() || !readNumber(0, KINDS - 1)) {
                return false;
            }
            int kind = value;
            if (!readNumber(0, MOST_SKILL)) {
                return false;
            }
            int skill = value;
            if (!readNumber(0, MOST_NERVE)) {
                return false;
            }
            staff.add(kind, skill, value);
            return true;
        }

        private boolean readNerve(Staff staff) {
            if (!readNumber(0, staff.count - 1)) {
                return false;
            }
            int keeper = value;
            if (!readNumber(0, MOST_NERVE)) {
                return false;
            }
            staff.putNerve(keeper, value);
            return true;
        }

        private boolean readMeasure(Temper temper, int what) {
            if (!isWithin(what, 0, MEASURES - 1)) {
                return false;
            }
            int most = what == HOUR ? MOST_TOLD_HOUR : MOST[what];
            if (!readNumber(LEAST[what], most)) {
                return false;
            }
            temper.putMeasure(what, value);
            return true;
        }

        private int spelledMeasure() {
            if (spells("rage")) {
                return RAGE;
            }
            if (spells("calm")) {
                return CALM;
            }
            if (spells("grown")) {
                return GROWTH;
            }
            if (spells("bar")) {
                return BAR;
            }
            return spells("hour") ? HOUR : NONE;
        }

        private boolean spells(String word) {
            if (end - start != word.length()) {
                return false;
            }
            for (int i = 0; i < word.length(); i++) {
                if (letterAt(start + i) != word.charAt(i)) {
                    return false;
                }
            }
            return true;
        }

        private boolean readNumber(int least, int most) {
            takeToken();
            if (token != NUMBER || end - start > MOST_DIGITS) {
                return false;
            }
            value = 0;
            for (int i = start; i < end; i++) {
                value = value * 10 + letterAt(i) - '0';
            }
            return isWithin(value, least, most);
        }

        private void takeToken() {
            start = end;
            while (start < size && letterAt(start) == ' ') {
                start++;
            }
            token = sortOf(letterAt(start));
            end = token == END ? start : start + 1;
            if (token == WORD || token == NUMBER) {
                while (end < size && sortOf(letterAt(end)) == token) {
                    end++;
                }
            }
        }

        private static int sortOf(int letter) {
            if (letter == NONE) {
                return END;
            }
            if (letter >= 'a' && letter <= 'z') {
                return WORD;
            }
            if (letter >= '0' && letter <= '9') {
                return NUMBER;
            }
            return letter == ';' ? SIGN : STRANGE;
        }

        private int letterAt(int place) {
            return place >= 0 && place < size && place < TAPE_SIZE ? letters[place] : NONE;
        }
    }

    /** What comes of ORDERS, one HOUR behind the other. */
    private static final class Walk {
        final Temper at = new Temper();
        int harmCount = 0;
        int fledCount = 0;
        int firstFled = NONE;
        int safeHours = 0;
        int leastRage = 0;
        int greatestRage = 0;
        int greatestWhen = 0;
        int leastCalm = 0;

        void along(int[] orders, int n, Temper from, Staff staff) {
            begin(from);
            for (int i = 0; i < n && i < orders.length; i++) {
                at.pass(orders[i], staff);
                noteHour(i);
            }
        }

        private void begin(Temper from) {
            at.become(from);
            harmCount = 0;
            fledCount = 0;
            firstFled = NONE;
            safeHours = 0;
            leastRage = from.rage;
            greatestRage = from.rage;
            greatestWhen = 0;
            leastCalm = from.calm;
        }

        private void noteHour(int i) {
            if (at.fledKeeper != NONE) {
                if (fledCount == 0) {
                    firstFled = i;
                }
                fledCount++;
            }
            if (at.harm) {
                harmCount++;
            }
            if (harmCount == 0) {
                safeHours++;
            }
            if (at.rage > greatestRage) {
                greatestRage = at.rage;
                greatestWhen = i + 1;
            }
            leastRage = Math.min(leastRage, at.rage);
            leastCalm = Math.min(leastCalm, at.calm);
        }
    }

    /** The BEST ROSTER, by looking at all of them. */
    private static final class Search {
        int bestHarms = 0;
        int bestRage = 0;
        private boolean isFound = false;
        private final int[] tried = new int[MOST_SEARCHED];
        private final int[] chosen = new int[MOST_SEARCHED];
        /** What there is behind as many HOURS as the place tells. */
        private final Temper[] levels = {new Temper(), new Temper(), new Temper(), new Temper(), new Temper()};

        void run(int n, Temper from, Staff staff) {
            isFound = false;
            levels[0].become(from);
            explore(0, n, 0, staff);
        }

        int orderOf(int i) {
            return i >= 0 && i < MOST_SEARCHED ? chosen[i] : NONE;
        }

        private void explore(int depth, int n, int harmed, Staff staff) {
            // HARMS never become fewer, so such a ROSTER can't be the BEST any more.
            if (isFound && harmed > bestHarms) {
                return;
            }
            if (depth >= n) {
                compare(n, harmed, depth);
                return;
            }
            for (int i = 0; i < staff.count + 2; i++) {
                exploreBy(staff.orderAt(i), depth, n, harmed, staff);
            }
        }

        private void exploreBy(int order, int depth, int n, int harmed, Staff staff) {
            if (depth < 0 || depth >= MOST_SEARCHED) {
                return;
            }
            Temper next = levels[depth + 1];
            tried[depth] = order;
            next.become(levels[depth]);
            next.pass(order, staff);
            // One who flees leaves what nobody leaves, and nobody comes first.
            if (next.fledKeeper == NONE) {
                explore(depth + 1, n, next.harm ? harmed + 1 : harmed, staff);
            }
        }

        private void compare(int n, int harmed, int depth) {
            int rage = depth >= 0 && depth < levels.length ? levels[depth].rage : MOST_RAGE;
            if (isFound && (harmed > bestHarms || harmed == bestHarms && rage >= bestRage)) {
                return;
            }
            isFound = true;
            bestHarms = harmed;
            bestRage = rage;
            for (int i = 0; i < n && i < MOST_SEARCHED; i++) {
                chosen[i] = tried[i];
            }
        }
    }

    /** How many numbers, told upward, the least and the greatest of them. */
    private static final class Tally {
        int count = 0;
        private int least = NONE;
        private int greatest = NONE;

        void clear() {
            count = 0;
            least = NONE;
            greatest = NONE;
        }

        void add(int v) {
            if (count == 0) {
                least = v;
            }
            greatest = v;
            count++;
        }

        int told(int what) {
            switch (what) {
                case 0: return count;
                case 1: return least;
                default: return greatest;
            }
        }
    }
}
