/**
 * Which port in a storm: boats by SORTS on banks, HARBOURS with ROOM, narrow MOUTHS and BARS that
 * break, STORMS by chances that the GLASS tells apart HOUR by HOUR.
 *
 * <p>Every row is made in the constructor and used again, so that no call makes an object.
 */
public final class StormHarbours {

    public static final int BAD = -1, NO = -2, FULL = -3, NONE = -4;

    private static final long BAD_SUM = Long.MIN_VALUE;

    private static final int HOURS = 24;
    /** The HOUR of what does not come about: a PLAN that never runs, a boat that never gets in. */
    private static final int NEVER = 24;
    /** HARBOURS, SORTS and STORMS: so many of each at most. */
    private static final int MOST = 4;
    private static final int MOST_BOATS = 8;
    private static final int MOST_BYTES = 500;
    private static final int MOST_KEPT = 2;
    private static final int MOST_ROUNDS = 6;
    private static final int MOST_NIGHT = 9999;
    /** What LIVES of a boat at first. */
    private static final int WHOLE = 1000000;
    private static final int ALL_TENTHS = 10;

    private static final String FIRST_SEA = "h9,9,10,0;b1,5,1,10,1;s10,0,1,0,0,0;";
    private static final int FIRST_X = 3;
    private static final int FIRST_Y = 4;

    /** Places of the numbers in the row of a HARBOUR. */
    private static final int ROOM = 0, MOUTH = 1, BAR = 2, SIDES = 3;
    /** Places of the numbers in the row of a SORT. */
    private static final int BOATS = 0, SPEED = 1, FISH = 2, WORTH = 3, HAZARD = 4;
    /** Places of the numbers in the row of a STORM. */
    private static final int TENTHS = 0, START = 1, GROWTH = 2, PEAK = 3, LENGTH = 4, SIDE = 5;

    /** The RULES. */
    private static final int TOLD = 0, GLASS = 1, HERD = 2, OPENING = 3, STAY = 4;

    /** For each ITEM's letter: the least and the greatest of its first number, of its second .. */
    private static final int[] HARBOUR_LIMITS = {1, 99, 1, 9, 1, 10, 0, 15};
    private static final int[] SORT_LIMITS = {1, 8, 1, 9, 0, 99, 0, 999, 0, 9};
    private static final int[] MILES_LIMITS = {0, 3, 0, 3, 1, 99};
    private static final int[] STORM_LIMITS = {0, 10, 0, 23, 1, 9, 0, 9, 0, 24, 0, 3};
    private static final int[] GLASS_LIMITS = {0, 3, 0, 23, 0, 9};
    private static final int[] LOSS_LIMITS = {1, 9, 0, 200};
    private static final int[] SLOW_LIMITS = {1, 9};
    private static final int[] NO_LIMITS = {};
    private static final int MOST_NUMBERS = 6;
    private static final int MOST_FIGURES = 3;

    private final Text text;
    private final Sea sea;
    private final Watch watch;
    private final Watch[] kept;
    private int keptCount;
    private final Passage passage;
    private final Rules rules;
    private final Lone lone;
    private final Council council;
    /** PLANS of a call that leaves the told ones as they are. */
    private final Plans trial;

    public StormHarbours() {
        text = new Text();
        sea = new Sea();
        watch = new Watch();
        kept = new Watch[MOST_KEPT];
        for (int k = 0; k < MOST_KEPT; k++) {
            kept[k] = new Watch();
        }
        passage = new Passage(sea);
        rules = new Rules(sea, watch);
        lone = new Lone(sea);
        council = new Council(sea, watch, passage);
        trial = new Plans();
        for (int k = 0; k < FIRST_SEA.length(); k++) {
            text.append((byte) FIRST_SEA.charAt(k));
        }
        lay();
        text.clear();
    }

    // ---- seas

    public int write(int n, long v) {
        if (n < 1 || n > 8) {
            return BAD;
        }
        if (text.length + n > MOST_BYTES) {
            return FULL;
        }
        for (int k = n - 1; k >= 0; k--) {
            text.append((byte) (v >>> (8 * k)));
        }
        return text.length;
    }

    public int wipe() {
        int was = text.length;
        text.clear();
        return was;
    }

    public int fault() {
        return text.firstFault();
    }

    public int lay() {
        if (text.firstFault() != NONE || !text.isWhole()) {
            return NO;
        }
        sea.clear();
        text.fill(sea);
        sea.reckon();
        watch.begin(sea.allStorms());
        keptCount = 0;
        return sea.sortCount;
    }

    public int storm(int s, int t, int what) {
        if (!sea.isStorm(s) || !isHour(t) || what < 0 || what > 1) {
            return BAD;
        }
        return what == 0 ? sea.strength[s][t] : sea.glass[s][t];
    }

    public int open(int j, int s, int t) {
        if (!sea.isHarbour(j) || !sea.isStorm(s) || !isHour(t)) {
            return BAD;
        }
        return sea.isOpen(j, s, t) ? 1 : 0;
    }

    public int risk(int i, int s, int t) {
        if (!sea.isSort(i) || !sea.isStorm(s) || !isHour(t)) {
            return BAD;
        }
        return sea.riskOf(i, s, t);
    }

    public int reach(int i, int j, int s, int u) {
        if (!sea.isSort(i) || !sea.isHarbour(j) || !sea.isStorm(s) || !isHour(u)) {
            return BAD;
        }
        int hour = sea.arrival(i, j, s, u);
        return hour < HOURS ? hour : NONE;
    }

    // ---- plans

    public int plan(int i, int u, int j) {
        if (!sea.isSort(i) || !isHourOrNever(u) || !sea.isHarbour(j)) {
            return BAD;
        }
        int was = watch.plans.told(i);
        watch.plans.send(i, u, j);
        return was;
    }

    public long value(int s) {
        if (!sea.isStorm(s)) {
            return BAD_SUM;
        }
        passage.asUsual();
        return passage.worthOf(s, watch.plans, sea.allSorts());
    }

    public int in(int s, int i) {
        if (!sea.isStorm(s) || !sea.isSort(i)) {
            return BAD;
        }
        passage.asUsual();
        passage.sail(s, watch.plans);
        return passage.inside[i];
    }

    public int lives(int s, int i, int n) {
        if (!sea.isStorm(s) || !sea.isSort(i) || n < 0 || n >= sea.sorts[i][BOATS]) {
            return BAD;
        }
        passage.asUsual();
        passage.sail(s, watch.plans);
        return sea.aliveAt(s, i, passage.entry[i][n]);
    }

    public long mean() {
        passage.asUsual();
        return passage.meanOf(watch.plans, watch.thought, sea.allSorts());
    }

    public int shut(int s) {
        if (!sea.isStorm(s)) {
            return BAD;
        }
        passage.asUsual();
        passage.sail(s, watch.plans);
        for (int i = 0; i < sea.sortCount; i++) {
            // The boats of a SORT go in by their numbers: the first one left out is the next one.
            if (watch.plans.hour[i] < NEVER && passage.inside[i] < sea.sorts[i][BOATS]) {
                return 10 * i + passage.inside[i];
            }
        }
        return NONE;
    }

    // ---- signs, rules

    public int sign(int v) {
        if (v < 0 || v > 9) {
            return BAD;
        }
        if (!isHour(watch.hour)) {
            return NO;
        }
        int stay = sea.telling(watch.thought, watch.hour, v);
        if (stay == 0) {
            return NO;
        }
        watch.thought = stay;
        watch.hour++;
        return stay;
    }

    public int now(int what) {
        switch (what) {
            case 0:
                return watch.hour;
            case 1:
                return watch.thought;
            case 2:
                return watch.glassAt;
            case 3:
                return watch.herdAt;
            default:
                return BAD;
        }
    }

    public int set(int what, int v) {
        if (what == 0 && v >= 0 && v <= 9) {
            int was = watch.glassAt;
            watch.glassAt = v;
            return was;
        }
        if (what == 1 && v >= 1 && v <= MOST * MOST_BOATS) {
            int was = watch.herdAt;
            watch.herdAt = v;
            return was;
        }
        return BAD;
    }

    public long by(int rule) {
        if (!isRule(rule)) {
            return BAD_SUM;
        }
        long sum = 0;
        for (int s = 0; s < sea.stormCount; s++) {
            if ((watch.thought >> s & 1) != 0) {
                sum += sea.storms[s][TENTHS] * worthByRule(rule, s);
            }
        }
        return sum;
    }

    public int ran(int rule, int s, int i) {
        if (!isRule(rule) || !sea.isStorm(s) || !sea.isSort(i)) {
            return BAD;
        }
        rules.follow(rule, s, trial);
        return trial.hour[i] < NEVER ? trial.told(i) : 10 * NEVER;
    }

    // ---- better

    public long alone(int i) {
        if (!sea.isSort(i)) {
            return BAD_SUM;
        }
        return lone.bestOfGroups(i, 0, sea.allStorms());
    }

    public int does(int i, int t, int set) {
        if (!sea.isSort(i) || !isHour(t) || set < 1 || set > sea.allStorms()) {
            return BAD;
        }
        return lone.choice(i, t, set);
    }

    public int better(boolean own) {
        passage.asUsual();
        for (int round = 1; round <= MOST_ROUNDS; round++) {
            boolean changed = false;
            for (int i = 0; i < sea.sortCount; i++) {
                if (council.improves(i, own ? 1 << i : sea.allSorts())) {
                    changed = true;
                }
            }
            if (!changed) {
                return round;
            }
        }
        return NONE;
    }

    public long gun(int u) {
        if (!isHourOrNever(u)) {
            return BAD_SUM;
        }
        return meanOfGun(u);
    }

    public int bestGun() {
        int best = 0;
        long most = meanOfGun(0);
        for (int u = 1; u <= NEVER; u++) {
            long sum = meanOfGun(u);
            if (sum > most) {
                most = sum;
                best = u;
            }
        }
        return best;
    }

    public long convoy(int sorts, int u, int j) {
        // A convoy of none has no least SPEED: 0 is no number of SORTS that is told.
        if (sorts < 1 || sorts > sea.allSorts() || !isHour(u) || !sea.isHarbour(j)) {
            return BAD_SUM;
        }
        trial.copyFrom(watch.plans);
        for (int i = 0; i < sea.sortCount; i++) {
            if ((sorts >> i & 1) != 0) {
                trial.send(i, u, j);
            }
        }
        passage.inConvoy(sorts, sea.leastSpeed(sorts));
        return passage.meanOf(trial, watch.thought, sea.allSorts());
    }

    public long first() {
        passage.dearestFirst();
        return passage.meanOf(watch.plans, watch.thought, sea.allSorts());
    }

    public long night(int z, int rule, int what) {
        if (z < 0 || z > MOST_NIGHT || !isRule(rule) || what < 0 || what > 1) {
            return BAD_SUM;
        }
        int s = sea.drawnBy(z);
        return what == 0 ? s : worthByRule(rule, s);
    }

    public int keep() {
        if (keptCount >= MOST_KEPT) {
            return FULL;
        }
        kept[keptCount].copyFrom(watch);
        keptCount++;
        return keptCount;
    }

    public int back() {
        if (keptCount < 1) {
            return NO;
        }
        keptCount--;
        watch.copyFrom(kept[keptCount]);
        return keptCount;
    }

    public int count(int what) {
        switch (what) {
            case 0:
                return sea.harbourCount;
            case 1:
                return sea.sortCount;
            case 2:
                return sea.stormCount;
            case 3:
                return sea.allBoats();
            case 4:
                return text.length;
            case 5:
                return keptCount;
            default:
                return BAD;
        }
    }

    // ---- what several calls need

    private long worthByRule(int rule, int s) {
        rules.follow(rule, s, trial);
        passage.asUsual();
        return passage.worthOf(s, trial, sea.allSorts());
    }

    private long meanOfGun(int u) {
        for (int i = 0; i < sea.sortCount; i++) {
            trial.send(i, u, sea.nearest(i));
        }
        passage.asUsual();
        return passage.meanOf(trial, watch.thought, sea.allSorts());
    }

    private static boolean isHour(int t) {
        return t >= 0 && t < HOURS;
    }

    private static boolean isHourOrNever(int u) {
        return u >= 0 && u <= NEVER;
    }

    private static boolean isRule(int rule) {
        return rule >= TOLD && rule <= STAY;
    }

    /** THE TEXT, and the reading of its ITEMS. */
    private static final class Text {
        private final byte[] bytes = new byte[MOST_BYTES];
        private int length;

        /** The place of the byte that is read next. */
        private int at;
        private int letter;
        private final int[] numbers = new int[MOST_NUMBERS];

        private int harbours;
        private int sorts;
        private int storms;
        private int tenths;

        void append(byte b) {
            if (length < MOST_BYTES) {
                bytes[length] = b;
                length++;
            }
        }

        void clear() {
            length = 0;
        }

        /** The place of the first ITEM that is not so, or NONE; counts what the ITEMS tell. */
        int firstFault() {
            toBegin();
            // Each ITEM takes a byte at least.
            for (int items = 0; items < MOST_BYTES && at < length; items++) {
                int start = at;
                if (!readItem() || !isSound()) {
                    return start;
                }
                tally();
            }
            return NONE;
        }

        /** Whether what firstFault counted can be LAID. */
        boolean isWhole() {
            return harbours > 0 && sorts > 0 && tenths == ALL_TENTHS;
        }

        /** Gives the ITEMS of a TEXT without FAULT to a sea. */
        void fill(Sea sea) {
            toBegin();
            for (int items = 0; items < MOST_BYTES && at < length; items++) {
                if (!readItem() || !isSound()) {
                    return;
                }
                sea.take(letter, numbers);
                tally();
            }
        }

        private void toBegin() {
            at = 0;
            harbours = 0;
            sorts = 0;
            storms = 0;
            tenths = 0;
        }

        private boolean readItem() {
            if (at >= length) {
                return false;
            }
            letter = bytes[at];
            at++;
            int wanted = limitsOf(letter).length / 2;
            for (int k = 0; k < wanted; k++) {
                if (!readNumber(k, k + 1 < wanted ? ',' : ';')) {
                    return false;
                }
            }
            return wanted > 0;
        }

        private boolean readNumber(int k, int end) {
            int number = 0;
            int figures = 0;
            while (at < length && figures < MOST_FIGURES && bytes[at] >= '0' && bytes[at] <= '9') {
                number = 10 * number + bytes[at] - '0';
                figures++;
                at++;
            }
            if (figures == 0 || at >= length || bytes[at] != end) {
                return false;
            }
            at++;
            numbers[k] = number;
            return true;
        }

        private boolean isSound() {
            int[] limits = limitsOf(letter);
            for (int k = 0; k < limits.length / 2; k++) {
                if (numbers[k] < limits[2 * k] || numbers[k] > limits[2 * k + 1]) {
                    return false;
                }
            }
            switch (letter) {
                case 'h':
                    return harbours < MOST;
                case 'b':
                    return sorts < MOST;
                case 's':
                    return storms < MOST;
                case 'd':
                    return numbers[0] < sorts && numbers[1] < harbours;
                case 'g':
                    return numbers[0] < storms;
                default:
                    return true;
            }
        }

        private void tally() {
            if (letter == 'h') {
                harbours++;
            } else if (letter == 'b') {
                sorts++;
            } else if (letter == 's') {
                storms++;
                tenths += numbers[TENTHS];
            }
        }

        private static int[] limitsOf(int letter) {
            switch (letter) {
                case 'h':
                    return HARBOUR_LIMITS;
                case 'b':
                    return SORT_LIMITS;
                case 'd':
                    return MILES_LIMITS;
                case 's':
                    return STORM_LIMITS;
                case 'g':
                    return GLASS_LIMITS;
                case 'r':
                    return LOSS_LIMITS;
                case 'w':
                    return SLOW_LIMITS;
                default:
                    return NO_LIMITS;
            }
        }
    }

    /** What is LAID, and what follows from it whatever the PLANS. */
    private static final class Sea {
        private static final int FIRST_MILES = 20;
        private static final int FIRST_SLOW = 3;
        private static final int MOST_RISK = 999;

        private int harbourCount;
        private int sortCount;
        private int stormCount;
        private final int[][] harbours = new int[MOST][SIDES + 1];
        private final int[][] sorts = new int[MOST][HAZARD + 1];
        private final int[][] storms = new int[MOST][SIDE + 1];
        /** By SORT and HARBOUR. */
        private final int[][] miles = new int[MOST][MOST];
        /** By STORM and HOUR. */
        private final int[][] glass = new int[MOST][HOURS];
        /** By STRENGTH: so many of a thousand are lost an HOUR. */
        private final int[] loss = new int[10];
        private int slow;

        /** By STORM and HOUR. */
        private final int[][] strength = new int[MOST][HOURS];
        /** By HARBOUR and STORM: the HOURS at which it is OPEN, as bits. */
        private final int[][] openHours = new int[MOST][MOST];
        /**
         * By STORM times MOST and SORT, then HOUR: what LIVES of a boat that is not in before it.
         * The RISK is the same on the bank, under way and at the MOUTH, so it hangs on no PLAN.
         */
        private final int[][] alive = new int[MOST * MOST][HOURS + 1];
        /** By STORM times MOST and SORT, then HOUR: the fish of a boat on the bank till then. */
        private final long[][] fished = new long[MOST * MOST][HOURS + 1];
        /** By STORM times MOST and SORT, then HARBOUR times HOURS and the HOUR it ran. */
        private final int[][] arrivals = new int[MOST * MOST][MOST * HOURS];

        void clear() {
            harbourCount = 0;
            sortCount = 0;
            stormCount = 0;
            slow = FIRST_SLOW;
            for (int x = 0; x < loss.length; x++) {
                loss[x] = 0;
            }
            for (int k = 0; k < MOST; k++) {
                for (int j = 0; j < MOST; j++) {
                    miles[k][j] = FIRST_MILES;
                }
                for (int t = 0; t < HOURS; t++) {
                    glass[k][t] = 0;
                }
            }
        }

        /** Takes an ITEM of which the TEXT has just made sure that it is so, its places too. */
        void take(int letter, int[] numbers) {
            switch (letter) {
                case 'h':
                    copyRow(numbers, harbours[harbourCount]);
                    harbourCount++;
                    break;
                case 'b':
                    copyRow(numbers, sorts[sortCount]);
                    sortCount++;
                    break;
                case 's':
                    copyRow(numbers, storms[stormCount]);
                    stormCount++;
                    break;
                case 'd':
                    miles[numbers[0]][numbers[1]] = numbers[2];
                    break;
                case 'g':
                    glass[numbers[0]][numbers[1]] = numbers[2];
                    break;
                case 'r':
                    loss[numbers[0]] = numbers[1];
                    break;
                case 'w':
                    slow = numbers[0];
                    break;
                default:
                    break;
            }
        }

        private static void copyRow(int[] from, int[] to) {
            for (int k = 0; k < to.length && k < from.length; k++) {
                to[k] = from[k];
            }
        }

        void reckon() {
            for (int s = 0; s < stormCount; s++) {
                for (int t = 0; t < HOURS; t++) {
                    strength[s][t] = strengthOf(storms[s], t);
                }
                for (int j = 0; j < harbourCount; j++) {
                    openHours[j][s] = openHoursOf(j, s);
                }
                for (int i = 0; i < sortCount; i++) {
                    reckonBank(s, i);
                    reckonArrivals(s, i);
                }
            }
        }

        private static int strengthOf(int[] storm, int t) {
            if (t < storm[START] || t >= storm[START] + storm[LENGTH]) {
                return 0;
            }
            return Math.min(storm[PEAK], storm[GROWTH] * (t - storm[START] + 1));
        }

        private int openHoursOf(int j, int s) {
            boolean sheltered = (harbours[j][SIDES] >> storms[s][SIDE] & 1) == 0;
            int hours = 0;
            for (int t = 0; t < HOURS; t++) {
                if (sheltered || strength[s][t] < harbours[j][BAR]) {
                    hours |= 1 << t;
                }
            }
            return hours;
        }

        private void reckonBank(int s, int i) {
            int[] living = alive[s * MOST + i];
            long[] catches = fished[s * MOST + i];
            living[0] = WHOLE;
            catches[0] = 0;
            for (int t = 0; t < HOURS; t++) {
                catches[t + 1] = catches[t] + (long) sorts[i][FISH] * living[t];
                // At most 1000000 times 1000: an int holds it.
                living[t + 1] = living[t] * (1000 - riskOf(i, s, t)) / 1000;
            }
        }

        private void reckonArrivals(int s, int i) {
            int[] row = arrivals[s * MOST + i];
            for (int j = 0; j < harbourCount; j++) {
                for (int u = 0; u < HOURS; u++) {
                    row[j * HOURS + u] = arrivalAt(sorts[i][SPEED], miles[i][j], s, u);
                }
            }
        }

        /** The HOUR from which on a boat is at the MOUTH that runs at u with a SPEED, or NEVER. */
        int arrivalAt(int speed, int off, int s, int u) {
            int made = 0;
            for (int t = u; t < HOURS; t++) {
                int slower = slow > 0 ? strength[s][t] / slow : 0;
                made += Math.max(1, speed - slower);
                if (made >= off) {
                    return t + 1;
                }
            }
            return NEVER;
        }

        /** The same for a boat of a SORT that makes its own SPEED; u may be NEVER. */
        int arrival(int i, int j, int s, int u) {
            return u < HOURS ? arrivals[s * MOST + i][j * HOURS + u] : NEVER;
        }

        /** The HOUR at which a boat goes in that is alone at the MOUTH, or NEVER. */
        int entryAlone(int i, int j, int s, int u) {
            for (int t = arrival(i, j, s, u); t < HOURS; t++) {
                if (isOpen(j, s, t)) {
                    return t;
                }
            }
            return NEVER;
        }

        /** What LIVES as an HOUR begins (24: in the end) of a boat that is not in before. */
        int aliveAt(int s, int i, int t) {
            return alive[s * MOST + i][t];
        }

        /** The worth of the fish of a boat that was on the bank till HOUR u (24: to the end). */
        long fishedTill(int s, int i, int u) {
            return fished[s * MOST + i][u];
        }

        boolean isOpen(int j, int s, int t) {
            return (openHours[j][s] >> t & 1) != 0;
        }

        int riskOf(int i, int s, int t) {
            return Math.min(MOST_RISK, loss[strength[s][t]] * sorts[i][HAZARD]);
        }

        int nearest(int i) {
            int best = 0;
            for (int j = 1; j < harbourCount; j++) {
                if (miles[i][j] < miles[i][best]) {
                    best = j;
                }
            }
            return best;
        }

        int leastSpeed(int set) {
            int least = 9;
            for (int i = 0; i < sortCount; i++) {
                if ((set >> i & 1) != 0) {
                    least = Math.min(least, sorts[i][SPEED]);
                }
            }
            return least;
        }

        int allBoats() {
            int sum = 0;
            for (int i = 0; i < sortCount; i++) {
                sum += sorts[i][BOATS];
            }
            return sum;
        }

        int allSorts() {
            return (1 << sortCount) - 1;
        }

        int allStorms() {
            return (1 << stormCount) - 1;
        }

        /** Those of a set of STORMS of which the GLASS tells v at an HOUR. */
        int telling(int set, int t, int v) {
            int same = 0;
            for (int s = 0; s < stormCount; s++) {
                if ((set >> s & 1) != 0 && glass[s][t] == v) {
                    same |= 1 << s;
                }
            }
            return same;
        }

        /** The STORM of a NIGHT. */
        int drawnBy(int z) {
            long x = 7919L * z + 1;
            long drawn = x * x % 65521 % 10;
            int together = 0;
            for (int s = 0; s < stormCount; s++) {
                together += storms[s][TENTHS];
                if (drawn < together) {
                    return s;
                }
            }
            return 0;
        }

        boolean isHarbour(int j) {
            return j >= 0 && j < harbourCount;
        }

        boolean isSort(int i) {
            return i >= 0 && i < sortCount;
        }

        boolean isStorm(int s) {
            return s >= 0 && s < stormCount;
        }
    }

    /** A PLAN for each SORT. */
    private static final class Plans {
        private final int[] hour = new int[MOST];
        private final int[] harbour = new int[MOST];

        void send(int i, int u, int j) {
            hour[i] = u;
            harbour[i] = j;
        }

        void stayAll() {
            for (int i = 0; i < MOST; i++) {
                send(i, NEVER, 0);
            }
        }

        void copyFrom(Plans other) {
            for (int i = 0; i < MOST; i++) {
                send(i, other.hour[i], other.harbour[i]);
            }
        }

        int told(int i) {
            return 10 * hour[i] + harbour[i];
        }
    }

    /** What can be KEPT: PLANS, X, Y, the HOUR, what is THOUGHT. */
    private static final class Watch {
        private final Plans plans = new Plans();
        /** X. */
        private int glassAt;
        /** Y. */
        private int herdAt;
        private int hour;
        private int thought;

        void begin(int storms) {
            plans.stayAll();
            glassAt = FIRST_X;
            herdAt = FIRST_Y;
            hour = 0;
            thought = storms;
        }

        void copyFrom(Watch other) {
            plans.copyFrom(other.plans);
            glassAt = other.glassAt;
            herdAt = other.herdAt;
            hour = other.hour;
            thought = other.thought;
        }
    }

    /** How boats get in by PLANS in a STORM, and what that is worth. */
    private static final class Passage {
        private final Sea sea;
        /** SORTS (bits) that make the SPEED of a CONVOY, not their own. */
        private int slowed;
        private int slowSpeed;
        private boolean dearFirst;

        private final int[] arrival = new int[MOST];
        /** The SORTS in the order in which a MOUTH lets them in. */
        private final int[] order = new int[MOST];
        private final int[] inside = new int[MOST];
        /** By SORT and number: the HOUR at which the boat went in, or NEVER. */
        private final int[][] entry = new int[MOST][MOST_BOATS];

        Passage(Sea sea) {
            this.sea = sea;
        }

        void asUsual() {
            slowed = 0;
            dearFirst = false;
        }

        void inConvoy(int sorts, int speed) {
            slowed = sorts;
            slowSpeed = speed;
            dearFirst = false;
        }

        void dearestFirst() {
            slowed = 0;
            dearFirst = true;
        }

        /** The sum of tenths times VALUE of the boats of some SORTS over a set of STORMS. */
        long meanOf(Plans plans, int thought, int sorts) {
            long sum = 0;
            for (int s = 0; s < sea.stormCount; s++) {
                if ((thought >> s & 1) != 0 && sea.storms[s][TENTHS] > 0) {
                    sum += sea.storms[s][TENTHS] * worthOf(s, plans, sorts);
                }
            }
            return sum;
        }

        /** VALUE of the boats of some SORTS in a STORM, in which all of them sail. */
        long worthOf(int s, Plans plans, int sorts) {
            sail(s, plans);
            long sum = 0;
            for (int i = 0; i < sea.sortCount; i++) {
                if ((sorts >> i & 1) != 0) {
                    sum += worthOfSort(s, i, plans);
                }
            }
            return sum;
        }

        private long worthOfSort(int s, int i, Plans plans) {
            int boats = sea.sorts[i][BOATS];
            long dead = 0;
            for (int n = 0; n < boats; n++) {
                dead += WHOLE - sea.aliveAt(s, i, entry[i][n]);
            }
            return boats * sea.fishedTill(s, i, plans.hour[i]) - sea.sorts[i][WORTH] * dead;
        }

        void sail(int s, Plans plans) {
            for (int i = 0; i < sea.sortCount; i++) {
                arrival[i] = arrivalOf(i, s, plans);
                inside[i] = 0;
                for (int n = 0; n < sea.sorts[i][BOATS]; n++) {
                    entry[i][n] = NEVER;
                }
            }
            putInOrder();
            for (int j = 0; j < sea.harbourCount; j++) {
                letIn(j, s, plans);
            }
        }

        private int arrivalOf(int i, int s, Plans plans) {
            int u = plans.hour[i];
            int j = plans.harbour[i];
            if ((slowed >> i & 1) != 0) {
                return sea.arrivalAt(slowSpeed, sea.miles[i][j], s, u);
            }
            return sea.arrival(i, j, s, u);
        }

        private void putInOrder() {
            for (int k = 0; k < sea.sortCount; k++) {
                int place = k;
                while (place > 0 && goesAhead(k, order[place - 1])) {
                    order[place] = order[place - 1];
                    place--;
                }
                order[place] = k;
            }
        }

        /** Whether SORT a goes in ahead of SORT b, a lower one. */
        private boolean goesAhead(int a, int b) {
            if (dearFirst) {
                int dearA = sea.sorts[a][WORTH] * sea.sorts[a][HAZARD];
                int dearB = sea.sorts[b][WORTH] * sea.sorts[b][HAZARD];
                if (dearA != dearB) {
                    return dearA > dearB;
                }
            }
            return arrival[a] < arrival[b];
        }

        private void letIn(int j, int s, Plans plans) {
            int from = NEVER;
            int outside = 0;
            for (int i = 0; i < sea.sortCount; i++) {
                if (plans.harbour[i] == j && arrival[i] < HOURS) {
                    from = Math.min(from, arrival[i]);
                    outside += sea.sorts[i][BOATS];
                }
            }
            int left = Math.min(outside, sea.harbours[j][ROOM]);
            for (int t = from; t < HOURS && left > 0; t++) {
                if (sea.isOpen(j, s, t)) {
                    left -= letInAt(j, t, Math.min(left, sea.harbours[j][MOUTH]), plans);
                }
            }
        }

        /** Lets boats in at an HOUR, so many at most: how many went in. */
        private int letInAt(int j, int t, int most, Plans plans) {
            int gone = 0;
            for (int k = 0; k < sea.sortCount && gone < most; k++) {
                int i = order[k];
                if (plans.harbour[i] == j && arrival[i] <= t) {
                    int boats = sea.sorts[i][BOATS];
                    while (inside[i] < boats && gone < most) {
                        entry[i][inside[i]] = t;
                        inside[i]++;
                        gone++;
                    }
                }
            }
            return gone;
        }
    }

    /** The PLANS that a RULE makes in a STORM. */
    private static final class Rules {
        private final Sea sea;
        private final Watch watch;

        Rules(Sea sea, Watch watch) {
            this.sea = sea;
            this.watch = watch;
        }

        void follow(int rule, int s, Plans made) {
            if (rule == TOLD) {
                made.copyFrom(watch.plans);
                return;
            }
            made.stayAll();
            if (rule == STAY) {
                return;
            }
            for (int t = 0; t < HOURS; t++) {
                for (int i = 0; i < sea.sortCount; i++) {
                    if (made.hour[i] == NEVER && runs(rule, s, t, i, made)) {
                        made.send(i, t, rule == OPENING ? likeliest(i, t) : sea.nearest(i));
                    }
                }
            }
        }

        private boolean runs(int rule, int s, int t, int i, Plans made) {
            if (rule == HERD && i > 0) {
                return boatsGone(t, made) >= watch.herdAt;
            }
            return sea.glass[s][t] >= watch.glassAt;
        }

        /** How many boats have run in HOURS ahead of t. */
        private int boatsGone(int t, Plans made) {
            int gone = 0;
            for (int i = 0; i < sea.sortCount; i++) {
                if (made.hour[i] < t) {
                    gone += sea.sorts[i][BOATS];
                }
            }
            return gone;
        }

        /** The HARBOUR that a boat alone gets into by most tenths; of several the NEAREST. */
        private int likeliest(int i, int u) {
            int best = 0;
            int most = -1;
            for (int j = 0; j < sea.harbourCount; j++) {
                int tenths = 0;
                for (int s = 0; s < sea.stormCount; s++) {
                    if ((watch.thought >> s & 1) != 0 && sea.entryAlone(i, j, s, u) < NEVER) {
                        tenths += sea.storms[s][TENTHS];
                    }
                }
                if (tenths > most || tenths == most && sea.miles[i][j] < sea.miles[i][best]) {
                    most = tenths;
                    best = j;
                }
            }
            return best;
        }
    }

    /** One boat ALONE. */
    private static final class Lone {
        private final Sea sea;

        Lone(Sea sea) {
            this.sea = sea;
        }

        /** What it does at an HOUR with a set of STORMS: 0 stays, 1 and HARBOUR. */
        int choice(int i, int t, int set) {
            int best = 0;
            long most = sumOfStaying(i, t, set);
            for (int j = 0; j < sea.harbourCount; j++) {
                long sum = sumOfRunning(i, t, j, set);
                if (sum > most) {
                    most = sum;
                    best = 1 + j;
                }
            }
            return best;
        }

        /**
         * The greatest sum over a set of STORMS for a boat on the bank as HOUR t begins, whose
         * GLASS is yet to be seen: it parts the set. Ends as t grows to NEVER.
         */
        private long bestOfGroups(int i, int t, int set) {
            long sum = 0;
            for (int v = 0; v <= 9; v++) {
                int group = sea.telling(set, t, v);
                if (group != 0) {
                    sum += bestFrom(i, t, group);
                }
            }
            return sum;
        }

        private long bestFrom(int i, int t, int set) {
            long most = sumOfStaying(i, t, set);
            for (int j = 0; j < sea.harbourCount; j++) {
                most = Math.max(most, sumOfRunning(i, t, j, set));
            }
            return most;
        }

        private long sumOfStaying(int i, int t, int set) {
            if (t + 1 < HOURS) {
                return bestOfGroups(i, t + 1, set);
            }
            return sumOfRunning(i, NEVER, 0, set);
        }

        /** The sum for a boat that runs at u, or never. */
        private long sumOfRunning(int i, int u, int j, int set) {
            long sum = 0;
            for (int s = 0; s < sea.stormCount; s++) {
                if ((set >> s & 1) != 0) {
                    long dead = WHOLE - sea.aliveAt(s, i, sea.entryAlone(i, j, s, u));
                    long worth = sea.fishedTill(s, i, u) - sea.sorts[i][WORTH] * dead;
                    sum += sea.storms[s][TENTHS] * worth;
                }
            }
            return sum;
        }
    }

    /** The PLANS made BETTER. */
    private static final class Council {
        private final Sea sea;
        private final Watch watch;
        private final Passage passage;

        Council(Sea sea, Watch watch, Passage passage) {
            this.sea = sea;
            this.watch = watch;
            this.passage = passage;
        }

        /** Gives a SORT the PLAN of the greatest MEAN of some SORTS: whether it had a worse one. */
        boolean improves(int i, int sorts) {
            Plans plans = watch.plans;
            int bestHour = plans.hour[i];
            int bestHarbour = plans.harbour[i];
            long most = passage.meanOf(plans, watch.thought, sorts);
            boolean found = false;
            for (int u = 0; u <= NEVER; u++) {
                for (int j = 0; j < sea.harbourCount; j++) {
                    plans.send(i, u, j);
                    long sum = passage.meanOf(plans, watch.thought, sorts);
                    if (sum > most) {
                        most = sum;
                        bestHour = u;
                        bestHarbour = j;
                        found = true;
                    }
                }
            }
            plans.send(i, bestHour, bestHarbour);
            return found;
        }
    }
}
