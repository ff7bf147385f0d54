/** What is poured on a site, when, and why a piece waits (see ../shared/DOC.md). */
public final class PourPlan {
    public static final int NONE = -1, BAD = -2, STATE = -3, FULL = -4;
    public static final long NO = Long.MIN_VALUE;

    private static final int SLAB = 0, WALL = 1, COLUMN = 2, KINDS = 4;
    private static final int FLOORS = 6, SIZES = 3, DAYS = 40;
    // The answer for a day that does not come till the last DAY.
    private static final int NEVER = DAYS;
    private static final int MOST_PIECES = 10, MOST_POINTS = 6;
    private static final int MOST_VOLUME = 200, MOST_FACES = 9, MOST_FORMS = 50, MOST_GANG = 1000;
    private static final int MOST_AHEAD = 9, MOST_BASE = 20, COLDEST = -30, WARMEST = 50;
    private static final int MOST_DEGREES = 2000, MOST_HARDNESS = 1000;
    private static final int STRIP = 0, BEAR = 1, LEVELS = 2;
    private static final int MAY = 0, BY_AHEAD = 1, BY_STANDS = 2, BY_FORMS = 3, BY_GANG = 4;
    private static final int MOST_FOR_BEST = 5, ORDERS_OF_FIVE = 120, MOST_CHANGES = 10;
    private static final int FLOORS_THAT_BEAR = 2;
    // Far above the steps that Euclid's way needs for two longs.
    private static final int MOST_STEPS = 200;

    private final Curing curing;
    private final Pieces pieces;
    private final Sequence sequence;
    private final int[] forms;
    // The row of best(): the best ORDER that it has seen so far.
    private final int[] bestOrder;
    private int gangLimit;
    private int today;
    private int latestEnd;

    public PourPlan() {
        curing = new Curing();
        pieces = new Pieces();
        sequence = new Sequence();
        forms = new int[] {10, 10, 10};
        bestOrder = new int[MOST_FOR_BEST];
        gangLimit = 100;
        today = 0;
        latestEnd = 0;
    }

    // ---- what is told

    public int piece(int kind, int floor, int volume, int size, int faces) {
        if (!isIn(kind, 0, KINDS - 1) || !isIn(floor, 0, FLOORS - 1) || !isIn(size, 0, SIZES - 1)) {
            return NONE;
        }
        if (!isIn(volume, 1, MOST_VOLUME) || !isIn(faces, 1, MOST_FACES)) {
            return BAD;
        }
        if (pieces.number >= MOST_PIECES) {
            return FULL;
        }
        sequence.append(pieces.number);
        return pieces.add(kind, floor, volume, size, faces);
    }

    public int ahead(int a, int b, int days) {
        if (!pieces.has(a) || !pieces.has(b)) {
            return NONE;
        }
        if (!isIn(days, 0, MOST_AHEAD) || a == b || pieces.mustLead(b, a)) {
            return BAD;
        }
        int was = pieces.lead[a][b];
        pieces.lead[a][b] = days;
        return was;
    }

    public int form(int size, int n) {
        if (!isIn(size, 0, SIZES - 1)) {
            return NONE;
        }
        if (!isIn(n, 0, MOST_FORMS)) {
            return BAD;
        }
        int was = forms[size];
        forms[size] = n;
        return was;
    }

    public int gang(int n) {
        if (!isIn(n, 1, MOST_GANG)) {
            return BAD;
        }
        int was = gangLimit;
        gangLimit = n;
        return was;
    }

    public int level(int which, int v) {
        if (!isIn(which, 0, LEVELS - 1)) {
            return NONE;
        }
        if (!isIn(v, 0, MOST_HARDNESS)) {
            return BAD;
        }
        int was = curing.levels[which];
        curing.levels[which] = v;
        curing.renew();
        return was;
    }

    // A WARMTH may be -1 or -2 itself: so the refusals are numbers far below it.
    public int warm(int day, int w) {
        if (!isDay(day)) {
            return Integer.MIN_VALUE;
        }
        if (!isIn(w, COLDEST, WARMEST)) {
            return Integer.MIN_VALUE + 1;
        }
        int was = curing.warmth[day];
        curing.warmth[day] = w;
        curing.renew();
        return was;
    }

    public int base(int b) {
        if (!isIn(b, 0, MOST_BASE)) {
            return BAD;
        }
        int was = curing.baseWarmth;
        curing.baseWarmth = b;
        curing.renew();
        return was;
    }

    public int point(int degrees, int thousandths) {
        if (!isIn(degrees, 1, MOST_DEGREES) || !isIn(thousandths, 0, MOST_HARDNESS)
                || !curing.goesOnWith(degrees, thousandths)) {
            return BAD;
        }
        if (curing.points >= MOST_POINTS) {
            return FULL;
        }
        curing.addPoint(degrees, thousandths);
        curing.renew();
        return curing.points;
    }

    public int unpoint() {
        int was = curing.points;
        curing.points = 0;
        curing.renew();
        return was;
    }

    public int table(int degrees) {
        return degrees < 0 ? BAD : curing.hardnessOf(degrees);
    }

    // ---- plans

    public int plan() {
        latestEnd = pourAnew();
        return latestEnd;
    }

    public int order(int piece, int i) {
        if (!pieces.has(piece) || !pieces.has(i)) {
            return NONE;
        }
        int was = sequence.placeOf(piece);
        sequence.move(was, i);
        return was;
    }

    public int best() {
        int n = pieces.number;
        if (n < 1 || n > MOST_FOR_BEST) {
            return STATE;
        }
        int least = NEVER + 1;
        sequence.sort();
        // From the first ORDER by numbers to the last one, so that of equals the first one stays.
        for (int i = 0; i < ORDERS_OF_FIVE; i++) {
            int end = pourAnew();
            if (end < least) {
                least = end;
                System.arraycopy(sequence.row, 0, bestOrder, 0, n);
            }
            if (!sequence.toNext()) {
                break;
            }
        }
        System.arraycopy(bestOrder, 0, sequence.row, 0, n);
        return plan();
    }

    public int better() {
        int changes = 0;
        int end = pourAnew();
        for (int i = 0; i < MOST_CHANGES; i++) {
            int less = endOfFirstGoodChange(end);
            if (less >= end) {
                break;
            }
            end = less;
            changes++;
        }
        latestEnd = pourAnew();
        return changes;
    }

    public int now(int day) {
        if (!isDay(day)) {
            return NONE;
        }
        if (day < today) {
            return BAD;
        }
        today = day;
        return pieces.unpourFrom(day);
    }

    public int bound() {
        return pieces.number == 0 ? 0 : pieces.longestLead() + 1;
    }

    // ---- looking

    public int about(int piece, int what) {
        if (!pieces.has(piece)) {
            return NONE;
        }
        switch (what) {
            case 0: return pieces.kinds[piece];
            case 1: return pieces.floors[piece];
            case 2: return pieces.volumes[piece];
            case 3: return pieces.sizes[piece];
            case 4: return pieces.faces[piece];
            case 5: return pieces.days[piece];
            case 6: return pieces.days[piece] == NONE ? NONE : curing.stripDayFor(pieces.days[piece]);
            case 7: return sequence.placeOf(piece);
            default: return NONE;
        }
    }

    public int hard(int piece, int day) {
        return pieces.has(piece) && isDay(day) ? curing.hardnessOn(pieces.days[piece], day) : NONE;
    }

    public int why(int piece, int day) {
        return pieces.has(piece) && isDay(day) ? hindrance(piece, day) : NONE;
    }

    public int free(int size, int day) {
        return isIn(size, 0, SIZES - 1) && isDay(day) ? formsLeft(size, day, NONE) : NONE;
    }

    public int poured(int day) {
        return isDay(day) ? volumeOn(day, NONE) : NONE;
    }

    public long borne(int piece, int day, int part) {
        if (!pieces.has(piece) || !isDay(day) || !isIn(part, 0, 1)) {
            return NO;
        }
        if (pieces.kinds[piece] != SLAB || !pieces.standsOn(piece, day)) {
            return NO;
        }
        long above = pieces.volumes[piece];
        long below = 1;
        int hardness = curing.hardnessOn(pieces.days[piece], day);
        for (int up = 1; up <= FLOORS_THAT_BEAR; up++) {
            int floor = pieces.floors[piece] + up;
            long together = hardnessBelow(floor, day);
            if (together > 0) {
                above = above * together + below * loadOf(floor, day) * hardness;
                below = below * together;
            }
        }
        long divisor = commonDivisor(above, below);
        if (divisor == 0) {
            return NO;
        }
        return part == 0 ? above / divisor : below / divisor;
    }

    public int count(int what) {
        switch (what) {
            case 0: return pieces.number;
            case 1: return pieces.howManyPoured();
            case 2: return today;
            case 3: return curing.points;
            case 4: return gangLimit;
            case 5: return curing.baseWarmth;
            case 6: return latestEnd;
            default: return NONE;
        }
    }

    // ---- how a PLAN is made

    private int pourAnew() {
        pieces.unpourFrom(today);
        int waiting = pieces.number - pieces.howManyPoured();
        for (int day = today; day < DAYS && waiting > 0; day++) {
            for (int i = 0; i < pieces.number; i++) {
                int p = sequence.row[i];
                if (pieces.days[p] == NONE && hindrance(p, day) == MAY) {
                    pieces.days[p] = day;
                    waiting--;
                }
            }
        }
        return endOfAll();
    }

    private int endOfAll() {
        int end = 0;
        for (int p = 0; p < pieces.number; p++) {
            end = Math.max(end, curing.stripDayFor(pieces.days[p]));
        }
        return end;
    }

    // Leaves the ORDER changed if some change makes END less, else as it was.
    private int endOfFirstGoodChange(int end) {
        for (int i = 0; i + 1 < pieces.number; i++) {
            sequence.move(i, i + 1);
            int changed = pourAnew();
            if (changed < end) {
                return changed;
            }
            sequence.move(i, i + 1);
        }
        return end;
    }

    // ---- what hinders a piece

    // One for plan() and why(): while a DAY is planned, only what comes ahead in the ORDER is poured on it.
    private int hindrance(int p, int day) {
        if (waitsForAhead(p, day)) {
            return BY_AHEAD;
        }
        if (pieces.kinds[p] == SLAB && waitsToStand(p, day)) {
            return BY_STANDS;
        }
        if (formsLeft(pieces.sizes[p], day, p) < pieces.faces[p]) {
            return BY_FORMS;
        }
        return volumeOn(day, p) + pieces.volumes[p] > gangLimit ? BY_GANG : MAY;
    }

    private boolean waitsForAhead(int p, int day) {
        for (int a = 0; a < pieces.number; a++) {
            if (pieces.lead[a][p] != NONE && !leadsBy(a, p, day)) {
                return true;
            }
        }
        return false;
    }

    private boolean leadsBy(int a, int p, int day) {
        int days = pieces.lead[a][p];
        if (!pieces.standsOn(a, day)) {
            return false;
        }
        if (days == 0 && pieces.days[a] == day) {
            return sequence.placeOf(a) < sequence.placeOf(p);
        }
        return pieces.days[a] + days <= day;
    }

    private boolean waitsToStand(int slab, int day) {
        for (int q = 0; q < pieces.number; q++) {
            // NONE, for what is not poured by then, is below every LEVEL.
            if (pieces.carries(q, slab)
                    && curing.hardnessOn(pieces.days[q], day) < curing.levels[BEAR]) {
                return true;
            }
        }
        return false;
    }

    private int formsLeft(int size, int day, int without) {
        int left = forms[size];
        for (int q = 0; q < pieces.number; q++) {
            if (q != without && pieces.sizes[q] == size && isHeldOn(q, day)) {
                left -= pieces.faces[q];
            }
        }
        return left;
    }

    private int volumeOn(int day, int without) {
        int sum = 0;
        for (int q = 0; q < pieces.number; q++) {
            if (q != without && pieces.days[q] == day) {
                sum += pieces.volumes[q];
            }
        }
        return sum;
    }

    // ---- loads

    private boolean isHeldOn(int p, int day) {
        return pieces.standsOn(p, day) && day < curing.stripDayFor(pieces.days[p]);
    }

    private long hardnessBelow(int floor, int day) {
        long sum = 0;
        for (int q = 0; q < pieces.number; q++) {
            boolean isBelow = isIn(floor - pieces.floors[q], 1, FLOORS_THAT_BEAR);
            if (isBelow && pieces.kinds[q] == SLAB && pieces.standsOn(q, day)) {
                sum += curing.hardnessOn(pieces.days[q], day);
            }
        }
        return sum;
    }

    private long loadOf(int floor, int day) {
        long sum = 0;
        for (int q = 0; q < pieces.number; q++) {
            if (pieces.floors[q] == floor && pieces.kinds[q] == SLAB && isHeldOn(q, day)) {
                sum += pieces.volumes[q];
            }
        }
        return sum;
    }

    // ---- numbers

    private static boolean isIn(int v, int least, int most) {
        return v >= least && v <= most;
    }

    private static boolean isDay(int v) {
        return isIn(v, 0, DAYS - 1);
    }

    private static long commonDivisor(long a, long b) {
        long x = a;
        long y = b;
        for (int i = 0; i < MOST_STEPS && y != 0; i++) {
            long rest = x % y;
            x = y;
            y = rest;
        }
        return x;
    }

    /** WARMTH, THE TABLE and the LEVELS: how hard it is by the DAY on which it was poured. */
    private static final class Curing {
        private final int[] warmth = new int[DAYS];
        private final int[] levels = {500, 300};
        private final int[] pointDegrees = new int[MOST_POINTS];
        private final int[] pointHardness = new int[MOST_POINTS];
        // DEGREES of all DAYS ahead of a DAY, together.
        private final int[] degreesAhead = new int[DAYS];
        // By the DAY of pouring; kept, for a plan asks for it very often.
        private final int[] stripDays = new int[DAYS];
        private int baseWarmth = 0;
        private int points = 0;

        private Curing() {
            for (int day = 0; day < DAYS; day++) {
                warmth[day] = 20;
            }
            renew();
        }

        private boolean goesOnWith(int degrees, int hardness) {
            int last = points - 1;
            return last < 0 || last >= MOST_POINTS
                    || degrees > pointDegrees[last] && hardness >= pointHardness[last];
        }

        private void addPoint(int degrees, int hardness) {
            if (points < MOST_POINTS) {
                pointDegrees[points] = degrees;
                pointHardness[points] = hardness;
                points++;
            }
        }

        private int hardnessOf(int degrees) {
            int fromDegrees = 0;
            int fromHardness = 0;
            for (int i = 0; i < points && i < MOST_POINTS; i++) {
                int width = pointDegrees[i] - fromDegrees;
                if (degrees < pointDegrees[i] && width > 0) {
                    int rise = pointHardness[i] - fromHardness;
                    return fromHardness + rise * (degrees - fromDegrees) / width;
                }
                fromDegrees = pointDegrees[i];
                fromHardness = pointHardness[i];
            }
            return fromHardness;
        }

        // NONE: not poured ahead of that DAY or on it.
        private int hardnessOn(int pouredDay, int day) {
            if (pouredDay < 0 || day < pouredDay || day >= DAYS) {
                return NONE;
            }
            return hardnessOf(degreesAhead[day] - degreesAhead[pouredDay]);
        }

        private int stripDayFor(int pouredDay) {
            return pouredDay >= 0 && pouredDay < DAYS ? stripDays[pouredDay] : NEVER;
        }

        private void renew() {
            for (int day = 1; day < DAYS; day++) {
                degreesAhead[day] = degreesAhead[day - 1] + Math.max(0, warmth[day - 1] - baseWarmth);
            }
            // What is poured later is never stripped sooner: the search goes on where the last one ended.
            int day = 0;
            for (int pouredDay = 0; pouredDay < DAYS; pouredDay++) {
                day = Math.max(day, pouredDay + 1);
                while (day < DAYS && hardnessOn(pouredDay, day) < levels[STRIP]) {
                    day++;
                }
                stripDays[pouredDay] = day;
            }
        }
    }

    /** The pieces, what must lead what, and on which DAYS they are poured. */
    private static final class Pieces {
        private final int[] kinds = new int[MOST_PIECES];
        private final int[] floors = new int[MOST_PIECES];
        private final int[] volumes = new int[MOST_PIECES];
        private final int[] sizes = new int[MOST_PIECES];
        private final int[] faces = new int[MOST_PIECES];
        // NONE: not poured.
        private final int[] days = new int[MOST_PIECES];
        // lead[a][b]: how many DAYS a must be AHEAD of b; NONE: nothing is told.
        private final int[][] lead = new int[MOST_PIECES][MOST_PIECES];
        // The longest way of leads to each piece; NONE: there is no way.
        private final int[] ways = new int[MOST_PIECES];
        private int number = 0;

        private Pieces() {
            for (int a = 0; a < MOST_PIECES; a++) {
                days[a] = NONE;
                for (int b = 0; b < MOST_PIECES; b++) {
                    lead[a][b] = NONE;
                }
            }
        }

        private boolean has(int p) {
            return p >= 0 && p < number && p < MOST_PIECES;
        }

        private int add(int kind, int floor, int volume, int size, int faceCount) {
            int p = number;
            if (p >= MOST_PIECES) {
                return FULL;
            }
            kinds[p] = kind;
            floors[p] = floor;
            volumes[p] = volume;
            sizes[p] = size;
            faces[p] = faceCount;
            number++;
            return p;
        }

        private boolean standsOn(int p, int day) {
            return days[p] != NONE && days[p] <= day;
        }

        private boolean carries(int q, int slab) {
            if (kinds[q] == WALL || kinds[q] == COLUMN) {
                return floors[q] == floors[slab];
            }
            return kinds[q] == SLAB && floors[q] == floors[slab] - 1;
        }

        private int unpourFrom(int day) {
            int changed = 0;
            for (int p = 0; p < number; p++) {
                if (days[p] >= day) {
                    days[p] = NONE;
                    changed++;
                }
            }
            return changed;
        }

        private int howManyPoured() {
            int sum = 0;
            for (int p = 0; p < number; p++) {
                if (days[p] != NONE) {
                    sum++;
                }
            }
            return sum;
        }

        private boolean mustLead(int a, int b) {
            for (int p = 0; p < number; p++) {
                ways[p] = NONE;
            }
            ways[a] = 0;
            lengthenWays();
            return ways[b] != NONE;
        }

        private int longestLead() {
            for (int p = 0; p < number; p++) {
                ways[p] = 0;
            }
            lengthenWays();
            int longest = 0;
            for (int p = 0; p < number; p++) {
                longest = Math.max(longest, ways[p]);
            }
            return longest;
        }

        // No way goes in a circle, so that it has fewer leads than there are pieces.
        private void lengthenWays() {
            for (int round = 1; round < number; round++) {
                for (int a = 0; a < number; a++) {
                    for (int b = 0; b < number; b++) {
                        if (ways[a] != NONE && lead[a][b] != NONE) {
                            ways[b] = Math.max(ways[b], ways[a] + lead[a][b]);
                        }
                    }
                }
            }
        }
    }

    /** The ORDER: row[i] is the piece at place i. */
    private static final class Sequence {
        private final int[] row = new int[MOST_PIECES];
        private int length = 0;

        private void append(int piece) {
            if (length < MOST_PIECES) {
                row[length] = piece;
                length++;
            }
        }

        private int placeOf(int piece) {
            for (int i = 0; i < length; i++) {
                if (row[i] == piece) {
                    return i;
                }
            }
            return NONE;
        }

        private boolean isPlace(int i) {
            return i >= 0 && i < length;
        }

        private void move(int from, int to) {
            if (!isPlace(from) || !isPlace(to)) {
                return;
            }
            int piece = row[from];
            for (int i = from; i < to; i++) {
                row[i] = row[i + 1];
            }
            for (int i = from; i > to; i--) {
                row[i] = row[i - 1];
            }
            row[to] = piece;
        }

        private void sort() {
            for (int i = 0; i < length; i++) {
                row[i] = i;
            }
        }

        // To the ORDER that comes next by numbers; false: this was the last one.
        private boolean toNext() {
            int i = length - 2;
            while (i >= 0 && row[i] > row[i + 1]) {
                i--;
            }
            if (i < 0) {
                return false;
            }
            int j = length - 1;
            while (j > i && row[j] < row[i]) {
                j--;
            }
            swap(i, j);
            for (int a = i + 1, b = length - 1; a < b; a++, b--) {
                swap(a, b);
            }
            return true;
        }

        private void swap(int i, int j) {
            int piece = row[i];
            row[i] = row[j];
            row[j] = piece;
        }
    }
}
