/** Three legs that switch, steered by whole ticks. The numbered promises stand in shared/DOC.md. */
public final class DriveTicks {
    public static final int NONE = -1, BAD = -2, NO = -3, FULL = -4;

    private static final int LEGS = 3;
    private static final int ALL_LEGS = 7;
    private static final int UNKNOWN = -1000;

    private static final int TICKS = 0;
    private static final int DEAD = 1;
    private static final int CORRECTING = 2;
    private static final int WINDOW = 3;
    private static final int PART = 4;
    private static final int SUM_PART = 5;
    private static final int STEERING = 6;
    private static final int SETTINGS = 7;
    private static final int[] SETTING_AT_FIRST = {48, 2, 1, 4, 8, 4, 0};
    private static final int[] SETTING_LEAST = {12, 0, 0, 1, 0, 0, 0};
    private static final int[] SETTING_MOST = {96, 5, 1, 20, 20, 20, 1};

    private static final int MOST_DEAD = 5;
    private static final int MOST_DEMAND = 200;
    private static final int MOST_CURRENT = 999;
    private static final int MOST_SUM = 5000;
    private static final int MOST_PART = 20;
    private static final int MOST_SEED = 999999;
    private static final int MOST_STEPS = 50;
    private static final int MOST_TRIED_STEPS = 60;
    private static final int MOST_DISTANCE = 500;

    private static final int MOST_WISHES = 12;
    private static final int MOST_PERIOD = 999;
    private static final int MOST_WANT = 500;
    private static final int MOST_FIGURES = 3;
    private static final int MOST_TEXT = 120;
    private static final int MOST_BYTE = 127;
    private static final int MOST_REMEMBERED = 10;

    // Three LEGS change at six TICKS at most, and each of their six gates twice at most.
    private static final int MOST_RUNS = 7;
    private static final int MOST_EVENTS = 12;

    private static final int MOST_SHIFT = 6;
    private static final int SHIFT_TOGETHER = 3;
    private static final int SHIFT_LIKE = 4;

    // By PATTERN: a LEG that is alone in it, or the one that is alone out of it.
    private static final int[] LEG_TOLD = {NONE, 0, 1, 2, 2, 1, 0, NONE};

    private static final int UPPER = 0;
    private static final int LOWER = 1;

    private static final int COLUMNS = 4;
    private static final int RUN_TICKS = 1;
    private static final int RUN_PATTERN = 2;
    private static final int WISH_LEG = 0;
    private static final int WISH_PERIOD = 1;
    private static final int WISH_WANT = 2;
    private static final int WISH_COLUMNS = 3;
    private static final int MEMORY_OVER = 3;

    private static final int REFUSED_BAD = 0;
    private static final int REFUSED_NO = 1;
    private static final int REFUSED_FULL = 2;
    private static final int REFUSALS = 3;
    private static final int COUNTS = 13;

    private final Drive drive;
    // What settles and tunes try is done here, so that all of the drive stays.
    private final Drive trial;
    private final Runs runs;
    private final Table gateEvents;
    private final Shifts shifts;
    private final Table remembered;
    private final Text text;
    private final int[] refused;

    public DriveTicks() {
        drive = new Drive();
        trial = new Drive();
        runs = new Runs();
        gateEvents = new Table(MOST_EVENTS);
        shifts = new Shifts();
        remembered = new Table(MOST_REMEMBERED);
        text = new Text();
        refused = new int[REFUSALS];
    }

    // ---- what is told

    public int sets(int what, int v) {
        if (!within(what, 0, SETTINGS - 1) || !within(v, SETTING_LEAST[what], SETTING_MOST[what])) {
            return refuseBad();
        }
        if (what == TICKS && v % 2 != 0) {
            return refuseBad();
        }
        int was = drive.setting[what];
        drive.setting[what] = v;
        return was;
    }

    public int leg(int l, int what, int v) {
        if (!isLeg(l) || !within(what, 0, 1)) {
            return refuseBad();
        }
        int most = what == 0 ? MOST_DEMAND : MOST_CURRENT;
        if (!within(v, -most, most)) {
            return refuseBad();
        }
        int[] told = what == 0 ? drive.demand : drive.current;
        int was = told[l];
        told[l] = v;
        return was;
    }

    public int anew() {
        int done = drive.stepsDone;
        drive.beginAnew();
        remembered.cutTo(0);
        return done;
    }

    public int draw(int seed) {
        if (!within(seed, 0, MOST_SEED)) {
            return refuseBad();
        }
        long x = seed;
        for (int l = 0; l < LEGS; l++) {
            x = (x * 1103515245L + 12345L) % 2147483648L;
            drive.demand[l] = (int) (x / 65536L % 201L) - 100;
            drive.current[l] = (int) (x / 1024L % 401L) - 200;
        }
        return planNow().spread;
    }

    // ---- the plan

    public int plan(int what) {
        switch (what) {
            case 0:
                return planNow().spread;
            case 1:
                return planNow().over ? 1 : 0;
            case 2:
                return runsNow().ticksOf(0);
            case 3:
                return runsNow().ticksOf(ALL_LEGS);
            case 4:
                return runsNow().rows.size;
            default:
                return refuseBad();
        }
    }

    public int of(int l, int what) {
        if (!isLeg(l)) {
            return refuseBad();
        }
        Plan p = planNow();
        switch (what) {
            case 0:
                return p.high[l];
            case 1:
                return p.start[l];
            case 2:
                return p.mean(l);
            case 3:
                return p.upperTicks(l);
            case 4:
                return p.lowerTicks(l);
            case 5:
                return p.neitherTicks(l);
            case 6:
                return p.timesUpperComesOn(l);
            default:
                return refuseBad();
        }
    }

    public int at(int l, int tick, int what) {
        if (!isLeg(l) || !within(tick, 0, drive.setting[TICKS] - 1)) {
            return refuseBad();
        }
        Plan p = planNow();
        switch (what) {
            case 0:
                return p.isWanted(l, tick) ? 1 : 0;
            case 1:
                return p.isOn(l, UPPER, tick) ? 1 : 0;
            case 2:
                return p.isOn(l, LOWER, tick) ? 1 : 0;
            case 3:
                return p.givesOne(l, tick) ? 1 : 0;
            default:
                return refuseBad();
        }
    }

    public int run(int k, int what) {
        if (k < 0 || !within(what, 0, COLUMNS - 1)) {
            return refuseBad();
        }
        return runsNow().rows.cellOr(NONE, k, what);
    }

    public int seen(int what) {
        switch (what) {
            case 0:
                return runsNow().seenLegs;
            case 1:
                return runsNow().howManySeen();
            default:
                return refuseBad();
        }
    }

    public int told(int l) {
        if (!isLeg(l)) {
            return refuseBad();
        }
        Runs r = runsNow();
        if (r.sees(l)) {
            return drive.current[l];
        }
        return r.howManySeen() == 2 ? currentByTheOthers(l) : UNKNOWN;
    }

    public int both() {
        Plan p = planNow();
        for (int l = 0; l < LEGS; l++) {
            for (int tick = 0; tick < p.ticks; tick++) {
                if (p.isOn(l, UPPER, tick) && p.isOn(l, LOWER, tick)) {
                    return 1;
                }
            }
        }
        return 0;
    }

    public int off(int l) {
        if (!isLeg(l)) {
            return refuseBad();
        }
        Plan p = planNow();
        return p.mean(l) - p.uncorrected[l];
    }

    public int dies(int l) {
        if (!isLeg(l)) {
            return refuseBad();
        }
        return planNow().leastDeadWithoutUpper(l);
    }

    public int event(int k, int what) {
        if (k < 0 || !within(what, 0, COLUMNS - 1)) {
            return refuseBad();
        }
        return eventsNow().cellOr(NONE, k, what);
    }

    public int events() {
        return eventsNow().size;
    }

    public int shift(int what) {
        if (!within(what, 0, SHIFT_LIKE)) {
            return refuseBad();
        }
        shifts.search(planNow(), drive.setting[WINDOW]);
        if (shifts.howManyLike == 0) {
            return UNKNOWN;
        }
        if (what == SHIFT_TOGETHER) {
            return shifts.together;
        }
        return what == SHIFT_LIKE ? shifts.howManyLike : shifts.best[what];
    }

    // ---- steps

    public int wish(int l, int period, int w) {
        if (!isLeg(l) || !within(period, 0, MOST_PERIOD) || !within(w, -MOST_WANT, MOST_WANT)) {
            return refuseBad();
        }
        if (drive.wishes.isFull()) {
            return refuseFull();
        }
        drive.wishes.add(l, period, w, 0);
        return drive.wishes.size;
    }

    public int unwish(int l) {
        if (!isLeg(l)) {
            return refuseBad();
        }
        return drive.dropWishesOf(l);
    }

    public int wished(int k, int what) {
        if (k < 0 || !within(what, 0, WISH_COLUMNS - 1)) {
            return refuseBad();
        }
        return drive.wishes.cellOr(NONE, k, what);
    }

    public int steps(int n) {
        if (!within(n, 1, MOST_STEPS)) {
            return refuseBad();
        }
        int overs = 0;
        for (int k = 0; k < n; k++) {
            int over = drive.stepOnce() ? 1 : 0;
            remember(over);
            overs += over;
        }
        return overs;
    }

    public int settles(int m) {
        if (!within(m, 0, MOST_DISTANCE)) {
            return refuseBad();
        }
        return stepsToSettle(m, drive.setting[PART], MOST_TRIED_STEPS);
    }

    public int tunes(int m) {
        if (!within(m, 0, MOST_DISTANCE)) {
            return refuseBad();
        }
        int best = NONE;
        int limit = MOST_TRIED_STEPS;
        for (int part = 0; part <= MOST_PART; part++) {
            int needed = stepsToSettle(m, part, limit);
            if (needed != NONE) {
                best = part;
                // Of like ones the least counts, so a later one has to be better.
                limit = needed - 1;
            }
        }
        return best;
    }

    public int state(int l, int what) {
        if (!isLeg(l)) {
            return refuseBad();
        }
        switch (what) {
            case 0:
                return drive.current[l];
            case 1:
                return drive.demand[l];
            case 2:
                return drive.want[l];
            case 3:
                return drive.sum[l];
            default:
                return refuseBad();
        }
    }

    public int memory(int k, int what) {
        if (k < 0 || !within(what, 0, COLUMNS - 1)) {
            return refuseBad();
        }
        return remembered.cellOr(UNKNOWN, remembered.size - 1 - k, what);
    }

    public int over(int l, int what) {
        if (!isLeg(l)) {
            return refuseBad();
        }
        switch (what) {
            case 0:
                return remembered.greatestOr(UNKNOWN, l);
            case 1:
                return remembered.leastOr(UNKNOWN, l);
            case 2:
                return remembered.totalOr(UNKNOWN, MEMORY_OVER);
            default:
                return refuseBad();
        }
    }

    public int type(int c) {
        if (!within(c, 0, MOST_BYTE)) {
            return refuseBad();
        }
        if (text.length >= MOST_TEXT) {
            return refuseFull();
        }
        text.append(c);
        return text.length;
    }

    public int clear() {
        int had = text.length;
        text.length = 0;
        return had;
    }

    public int reads() {
        int room = MOST_WISHES - drive.wishes.size;
        int fault = text.faultOfWishes(room, Math.min(drive.stepsDone, MOST_PERIOD));
        if (fault != NONE) {
            return -10 - fault;
        }
        drive.wishes.addAll(text.wishes);
        return text.wishes.size;
    }

    public int count(int what) {
        if (!within(what, 0, COUNTS - 1)) {
            return refuseBad();
        }
        return counted(what);
    }

    public long digest() {
        long h = 2069L;
        for (int what = 0; what < COUNTS; what++) {
            h = 31L * h + counted(what);
        }
        Plan p = planNow();
        for (int l = 0; l < LEGS; l++) {
            h = 31L * h + drive.current[l];
            h = 31L * h + drive.demand[l];
            h = 31L * h + drive.want[l];
            h = 31L * h + drive.sum[l];
            h = 31L * h + p.high[l];
            h = 31L * h + p.mean(l);
        }
        for (int k = 0; k < drive.wishes.size; k++) {
            for (int column = 0; column < WISH_COLUMNS; column++) {
                h = 31L * h + drive.wishes.cellOr(NONE, k, column);
            }
        }
        h = 31L * h + p.spread;
        return 31L * h + runsNow().rows.size;
    }

    // ---- what the calls share

    private static boolean within(int v, int least, int most) {
        return v >= least && v <= most;
    }

    private static boolean isLeg(int l) {
        return within(l, 0, LEGS - 1);
    }

    private static int pulledWithin(int v, int least, int most) {
        return Math.max(least, Math.min(most, v));
    }

    private static int greatestOf(int[] ofLegs) {
        return Math.max(ofLegs[0], Math.max(ofLegs[1], ofLegs[2]));
    }

    private static int leastOf(int[] ofLegs) {
        return Math.min(ofLegs[0], Math.min(ofLegs[1], ofLegs[2]));
    }

    private int refuseBad() {
        refused[REFUSED_BAD]++;
        return BAD;
    }

    private int refuseFull() {
        refused[REFUSED_FULL]++;
        return FULL;
    }

    private Plan planNow() {
        drive.makePlan();
        return drive.plan;
    }

    private Runs runsNow() {
        Plan p = planNow();
        runs.find(p.ticks, drive.setting[WINDOW], p.start, p.high);
        return runs;
    }

    private Table eventsNow() {
        planNow().listEvents(gateEvents);
        return gateEvents;
    }

    private int currentByTheOthers(int l) {
        int others = 0;
        for (int k = 0; k < LEGS; k++) {
            if (k != l) {
                others += drive.current[k];
            }
        }
        return -others;
    }

    private void remember(int over) {
        if (remembered.isFull()) {
            remembered.dropFirst();
        }
        remembered.add(drive.current[0], drive.current[1], drive.current[2], over);
    }

    private int stepsToSettle(int m, int part, int limit) {
        trial.becomeLike(drive);
        trial.setting[PART] = part;
        for (int k = 0; k <= limit; k++) {
            if (trial.isSettled(m)) {
                return k;
            }
            trial.stepOnce();
        }
        return NONE;
    }

    private int counted(int what) {
        switch (what) {
            case 0:
                return refused[REFUSED_BAD];
            case 1:
                return refused[REFUSED_NO];
            case 2:
                return refused[REFUSED_FULL];
            case 3:
                return drive.stepsDone;
            case 4:
                return drive.wishes.size;
            case 12:
                return text.length;
            default:
                return countedSetting(what - 5);
        }
    }

    private int countedSetting(int which) {
        return within(which, 0, SETTINGS - 1) ? drive.setting[which] : NONE;
    }

    /** Rows of four numbers, at most so many as it was made for. */
    private static final class Table {
        final int most;
        final int[] cells;
        int size;

        Table(int most) {
            this.most = Math.max(0, most);
            cells = new int[this.most * COLUMNS];
        }

        boolean isFull() {
            return size >= most;
        }

        void add(int a, int b, int c, int d) {
            if (isFull()) {
                return;
            }
            int place = size * COLUMNS;
            cells[place] = a;
            cells[place + 1] = b;
            cells[place + 2] = c;
            cells[place + 3] = d;
            size++;
        }

        void addAll(Table other) {
            for (int k = 0; k < other.size; k++) {
                int place = k * COLUMNS;
                add(other.cells[place], other.cells[place + 1], other.cells[place + 2], other.cells[place + 3]);
            }
        }

        int cellOr(int missing, int row, int column) {
            if (!within(row, 0, size - 1) || !within(column, 0, COLUMNS - 1)) {
                return missing;
            }
            return cells[row * COLUMNS + column];
        }

        void moveRow(int from, int to) {
            if (within(from, 0, size - 1) && within(to, 0, size - 1)) {
                System.arraycopy(cells, from * COLUMNS, cells, to * COLUMNS, COLUMNS);
            }
        }

        void cutTo(int rows) {
            size = pulledWithin(rows, 0, size);
        }

        void dropFirst() {
            for (int k = 1; k < size; k++) {
                moveRow(k, k - 1);
            }
            cutTo(size - 1);
        }

        int greatestOr(int missing, int column) {
            int greatest = cellOr(missing, 0, column);
            for (int k = 1; k < size; k++) {
                greatest = Math.max(greatest, cellOr(missing, k, column));
            }
            return greatest;
        }

        int leastOr(int missing, int column) {
            int least = cellOr(missing, 0, column);
            for (int k = 1; k < size; k++) {
                least = Math.min(least, cellOr(missing, k, column));
            }
            return least;
        }

        int totalOr(int missing, int column) {
            int total = cellOr(missing, 0, column);
            for (int k = 1; k < size; k++) {
                total += cellOr(missing, k, column);
            }
            return total;
        }
    }

    /** How long each LEG is to be high, and what its gates and it do then. */
    private static final class Plan {
        int ticks;
        int dead;
        boolean correcting;
        int spread;
        boolean over;
        final int[] uncorrected = new int[LEGS];
        final int[] high = new int[LEGS];
        final int[] start = new int[LEGS];
        final int[] current = new int[LEGS];

        void make(int[] setting, int[] demand, int[] currents) {
            ticks = setting[TICKS];
            dead = setting[DEAD];
            correcting = setting[CORRECTING] == 1;
            int greatest = greatestOf(demand);
            int least = leastOf(demand);
            spread = greatest - least;
            over = spread > ticks;
            int middle = demandThatCounts(greatest) + demandThatCounts(least);
            for (int l = 0; l < LEGS; l++) {
                current[l] = currents[l];
                int bare = (ticks + 2 * demandThatCounts(demand[l]) - middle) / 2;
                uncorrected[l] = pulledWithin(bare, 0, ticks);
                high[l] = highWithDead(l, dead);
                start[l] = (ticks - high[l]) / 2;
            }
        }

        private int demandThatCounts(int demand) {
            return over && spread > 0 ? demand * ticks / spread : demand;
        }

        private int highWithDead(int l, int someDead) {
            if (!correcting || current[l] == 0) {
                return uncorrected[l];
            }
            int more = current[l] > 0 ? someDead : -someDead;
            return pulledWithin(uncorrected[l] + more, 0, ticks);
        }

        boolean isWanted(int l, int tick) {
            return tick >= start[l] && tick < start[l] + high[l];
        }

        private int tickBehindBy(int back, int tick) {
            return tick >= back ? tick - back : tick - back + ticks;
        }

        boolean isOn(int l, int gate, int tick) {
            boolean needed = gate == UPPER;
            for (int back = 0; back <= dead; back++) {
                if (isWanted(l, tickBehindBy(back, tick)) != needed) {
                    return false;
                }
            }
            return true;
        }

        boolean givesOne(int l, int tick) {
            if (isOn(l, UPPER, tick)) {
                return true;
            }
            return !isOn(l, LOWER, tick) && current[l] < 0;
        }

        // A gate comes on DEAD late, but for one that is on all around.
        private int ticksOn(int wanted, int someDead) {
            return wanted >= ticks ? ticks : Math.max(0, wanted - someDead);
        }

        int upperTicks(int l) {
            return ticksOn(high[l], dead);
        }

        int lowerTicks(int l) {
            return ticksOn(ticks - high[l], dead);
        }

        int neitherTicks(int l) {
            return ticks - upperTicks(l) - lowerTicks(l);
        }

        int mean(int l) {
            return current[l] < 0 ? ticks - lowerTicks(l) : upperTicks(l);
        }

        int timesUpperComesOn(int l) {
            int on = upperTicks(l);
            return on > 0 && on < ticks ? 1 : 0;
        }

        int leastDeadWithoutUpper(int l) {
            int least = NONE;
            for (int d = MOST_DEAD; d >= 0 && ticksOn(highWithDead(l, d), d) == 0; d--) {
                least = d;
            }
            return least;
        }

        void listEvents(Table events) {
            events.cutTo(0);
            for (int tick = 0; tick < ticks; tick++) {
                for (int l = 0; l < LEGS; l++) {
                    listEvent(events, tick, l, UPPER);
                    listEvent(events, tick, l, LOWER);
                }
            }
        }

        private void listEvent(Table events, int tick, int l, int gate) {
            boolean is = isOn(l, gate, tick);
            boolean was = isOn(l, gate, tickBehindBy(1, tick));
            if (is != was) {
                events.add(tick, l, gate, is ? 1 : 0);
            }
        }
    }

    /** RUNS of like PATTERN, and the LEGS that are SEEN in them. */
    private static final class Runs {
        final Table rows = new Table(MOST_RUNS);
        int seenLegs;

        void find(int ticks, int window, int[] start, int[] high) {
            rows.cutTo(0);
            seenLegs = 0;
            int first = 0;
            for (int k = 0; k < MOST_RUNS && first < ticks; k++) {
                int end = nextChange(first, ticks, start, high);
                int pattern = patternAt(first, start, high);
                int tells = end - first >= window ? LEG_TOLD[pattern] : NONE;
                if (tells != NONE) {
                    seenLegs |= 1 << tells;
                }
                rows.add(first, end - first, pattern, tells);
                first = end;
            }
        }

        private static int nextChange(int tick, int ticks, int[] start, int[] high) {
            int next = ticks;
            for (int l = 0; l < LEGS; l++) {
                int end = start[l] + high[l];
                // A LEG of HIGH 0 has a start, but nothing changes there.
                if (start[l] > tick && high[l] > 0) {
                    next = Math.min(next, start[l]);
                } else if (end > tick && high[l] > 0) {
                    next = Math.min(next, end);
                }
            }
            return next;
        }

        private static int patternAt(int tick, int[] start, int[] high) {
            int pattern = 0;
            for (int l = 0; l < LEGS; l++) {
                if (tick >= start[l] && tick < start[l] + high[l]) {
                    pattern |= 1 << l;
                }
            }
            return pattern;
        }

        boolean sees(int l) {
            return (seenLegs >> l & 1) == 1;
        }

        int howManySeen() {
            return Integer.bitCount(seenLegs);
        }

        int ticksOf(int pattern) {
            int total = 0;
            for (int k = 0; k < rows.size; k++) {
                if (rows.cellOr(NONE, k, RUN_PATTERN) == pattern) {
                    total += rows.cellOr(0, k, RUN_TICKS);
                }
            }
            return total;
        }
    }

    /** The BEST SHIFTS by which two LEGS or more would be SEEN. */
    private static final class Shifts {
        final Runs runs = new Runs();
        final int[] tried = new int[LEGS];
        final int[] shifted = new int[LEGS];
        final int[] best = new int[LEGS];
        int together;
        int howManyLike;

        void search(Plan plan, int window) {
            howManyLike = 0;
            for (int total = 0; total <= LEGS * MOST_SHIFT && howManyLike == 0; total++) {
                together = total;
                searchAllOf(total, plan, window);
            }
        }

        // The order is LEG 0's least first, then LEG 1's, then LEG 2's.
        private void searchAllOf(int total, Plan plan, int window) {
            for (int a = -MOST_SHIFT; a <= MOST_SHIFT; a++) {
                for (int b = -MOST_SHIFT; b <= MOST_SHIFT; b++) {
                    int left = total - Math.abs(a) - Math.abs(b);
                    if (!within(left, 0, MOST_SHIFT)) {
                        continue;
                    }
                    tryOne(a, b, -left, plan, window);
                    if (left > 0) {
                        tryOne(a, b, left, plan, window);
                    }
                }
            }
        }

        private void tryOne(int a, int b, int c, Plan plan, int window) {
            tried[0] = a;
            tried[1] = b;
            tried[2] = c;
            for (int l = 0; l < LEGS; l++) {
                if (!mayMove(plan, l, tried[l])) {
                    return;
                }
                shifted[l] = plan.start[l] + tried[l];
            }
            runs.find(plan.ticks, window, shifted, plan.high);
            if (runs.howManySeen() < 2) {
                return;
            }
            if (howManyLike == 0) {
                System.arraycopy(tried, 0, best, 0, LEGS);
            }
            howManyLike++;
        }

        private static boolean mayMove(Plan plan, int l, int by) {
            if (plan.high[l] == 0) {
                return by == 0;
            }
            int first = plan.start[l] + by;
            return first >= 0 && first + plan.high[l] <= plan.ticks;
        }
    }

    /** All that a STEP changes, and what it goes by. */
    private static final class Drive {
        final int[] setting = new int[SETTINGS];
        final int[] demand = new int[LEGS];
        final int[] current = new int[LEGS];
        final int[] want = new int[LEGS];
        final int[] sum = new int[LEGS];
        final Table wishes = new Table(MOST_WISHES);
        final Plan plan = new Plan();
        int stepsDone;

        Drive() {
            beginAnew();
        }

        void beginAnew() {
            System.arraycopy(SETTING_AT_FIRST, 0, setting, 0, SETTINGS);
            for (int l = 0; l < LEGS; l++) {
                demand[l] = 0;
                current[l] = 0;
                want[l] = 0;
                sum[l] = 0;
            }
            wishes.cutTo(0);
            stepsDone = 0;
        }

        void becomeLike(Drive other) {
            System.arraycopy(other.setting, 0, setting, 0, SETTINGS);
            System.arraycopy(other.demand, 0, demand, 0, LEGS);
            System.arraycopy(other.current, 0, current, 0, LEGS);
            System.arraycopy(other.want, 0, want, 0, LEGS);
            System.arraycopy(other.sum, 0, sum, 0, LEGS);
            wishes.cutTo(0);
            wishes.addAll(other.wishes);
            stepsDone = other.stepsDone;
        }

        void makePlan() {
            plan.make(setting, demand, current);
        }

        /** Answers whether the STEP was OVER. */
        boolean stepOnce() {
            takeWishesThatHaveCome();
            if (setting[STEERING] == 1) {
                steer();
            }
            makePlan();
            moveCurrents();
            stepsDone++;
            return plan.over;
        }

        private void takeWishesThatHaveCome() {
            int kept = 0;
            for (int k = 0; k < wishes.size; k++) {
                if (wishes.cellOr(0, k, WISH_PERIOD) > stepsDone) {
                    wishes.moveRow(k, kept);
                    kept++;
                } else {
                    takeWant(wishes.cellOr(NONE, k, WISH_LEG), wishes.cellOr(0, k, WISH_WANT));
                }
            }
            wishes.cutTo(kept);
        }

        private void takeWant(int l, int w) {
            if (isLeg(l)) {
                want[l] = w;
            }
        }

        private void steer() {
            boolean wasOver = greatestOf(demand) - leastOf(demand) > setting[TICKS];
            for (int l = 0; l < LEGS; l++) {
                int e = want[l] - current[l];
                boolean oneSign = e > 0 && sum[l] > 0 || e < 0 && sum[l] < 0;
                if (!wasOver || !oneSign) {
                    sum[l] = pulledWithin(sum[l] + e, -MOST_SUM, MOST_SUM);
                }
                int asked = e * setting[PART] / 16 + sum[l] * setting[SUM_PART] / 64;
                demand[l] = pulledWithin(asked, -MOST_DEMAND, MOST_DEMAND);
            }
        }

        // The plan keeps MEANS by the CURRENTS ahead, while these change.
        private void moveCurrents() {
            int means = plan.mean(0) + plan.mean(1) + plan.mean(2);
            for (int l = 0; l < LEGS; l++) {
                int moved = current[l] + (3 * plan.mean(l) - means) / 6;
                current[l] = pulledWithin(moved - moved / 8, -MOST_CURRENT, MOST_CURRENT);
            }
        }

        int dropWishesOf(int l) {
            int kept = 0;
            int before = wishes.size;
            for (int k = 0; k < before; k++) {
                if (wishes.cellOr(NONE, k, WISH_LEG) != l) {
                    wishes.moveRow(k, kept);
                    kept++;
                }
            }
            wishes.cutTo(kept);
            return before - kept;
        }

        boolean isSettled(int m) {
            for (int l = 0; l < LEGS; l++) {
                if (Math.abs(current[l] - want[l]) > m) {
                    return false;
                }
            }
            return wishes.size == 0;
        }
    }

    /** THE TEXT, and the WISHES that it was last read to tell. */
    private static final class Text {
        final int[] bytes = new int[MOST_TEXT];
        final Table wishes = new Table(MOST_WISHES);
        int length;
        private int place;
        private int fault;

        void append(int c) {
            if (length < MOST_TEXT) {
                bytes[length] = c;
                length++;
            }
        }

        /** NONE, if there is no FAULT: then wishes are what THE TEXT tells. */
        int faultOfWishes(int room, int periodNow) {
            wishes.cutTo(0);
            place = 0;
            fault = NONE;
            skipBlanks();
            if (place >= length) {
                return length;
            }
            // The WISH behind the last one that has room is a FAULT, so this ends.
            for (int k = 0; k <= MOST_WISHES && place < length && fault == NONE; k++) {
                readWish(room, periodNow);
                skipBlanks();
            }
            return fault;
        }

        private void readWish(int room, int periodNow) {
            int l = byteHere() - 'u';
            if (!isLeg(l) || wishes.size >= room) {
                failAt(place);
                return;
            }
            place++;
            int w = readWant();
            int period = fault == NONE ? readPeriod(periodNow) : 0;
            if (fault == NONE && readEnd()) {
                wishes.add(l, period, w, 0);
            }
        }

        private boolean readEnd() {
            skipBlanks();
            if (byteHere() != ';') {
                failAt(place);
                return false;
            }
            place++;
            return true;
        }

        private int readWant() {
            skipBlanks();
            int sign = byteHere();
            if (sign != '+' && sign != '-') {
                return 0;
            }
            place++;
            int size = readNumber(MOST_WANT);
            return sign == '-' ? -size : size;
        }

        private int readPeriod(int periodNow) {
            skipBlanks();
            if (byteHere() != '@') {
                return periodNow;
            }
            place++;
            return readNumber(MOST_PERIOD);
        }

        private int readNumber(int most) {
            skipBlanks();
            int first = place;
            int value = 0;
            while (place < length && within(byteHere(), '0', '9')) {
                if (place - first < MOST_FIGURES) {
                    value = value * 10 + byteHere() - '0';
                }
                place++;
            }
            int figures = place - first;
            if (figures == 0 || figures > MOST_FIGURES || value > most) {
                failAt(first);
                return 0;
            }
            return value;
        }

        private void skipBlanks() {
            while (place < length && byteHere() == ' ') {
                place++;
            }
        }

        // Behind the last byte stands NONE, which is no byte.
        private int byteHere() {
            return place >= 0 && place < length && place < MOST_TEXT ? bytes[place] : NONE;
        }

        private void failAt(int where) {
            fault = where;
        }
    }
}
