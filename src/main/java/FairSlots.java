import java.util.Arrays;
import java.util.NoSuchElementException;

/** Proportionate schedules on many processors; ../shared/DOC.md says what each call promises. */
public final class FairSlots {
    public static final int NONE = -1;

    private static final int TASKS = 8;
    private static final int MOST_PROCESSORS = 4;
    private static final int GREATEST_P = 12;
    private static final int MOST_SLOTS = 60;
    private static final int FAR_SLOTS = 99;
    private static final int LONGEST_WAIT = 12;
    private static final int MOST_UNDONE = 12;
    private static final int MOST_KEPT = 2;
    private static final int MISSING_SHEET = 3;
    private static final int SHARES = 10;
    private static final int MOST_CHANCES = 8;

    /** Every P from 1 to 12 goes into it, so that WEIGHTS add up as whole numbers. */
    private static final int WHOLE = 27720;

    private final World now = new World();
    private final World before = new World();
    private final World later = new World();
    private final Past past = new Past();
    private final Scroll text = new Scroll();
    private final Ties tiesNow = new Ties();
    private final Ties tiesRead = new Ties();
    private final Row told = new Row();
    private final Hearsay hearsay = new Hearsay();
    private final Sightings sightings = new Sightings();
    private final Extremes extremes = new Extremes();
    private final Stream stream = new Stream();
    private final int[] pairCounts = new int[TASKS * TASKS];
    private final long[] chances = new long[MOST_CHANCES + 1];

    public FairSlots() {
    }

    // ---- tasks, ties

    public int sign(int v) {
        return text.append(v);
    }

    public boolean end(int n) {
        return text.cutTo(n);
    }

    public int joins() {
        later.copyFrom(now);
        int lines = text.readLines(later);
        text.clear();
        if (lines <= 0) {
            return lines;
        }
        if (later.weightSum() > later.processors * WHOLE) {
            return -100;
        }
        past.remember(now);
        now.copyFrom(later);
        return lines;
    }

    public int ties() {
        int fault = text.readTies(tiesRead);
        text.clear();
        if (fault != NONE) {
            return -1 - fault;
        }
        tiesNow.copyFrom(tiesRead);
        return tiesNow.size;
    }

    public int task(int task, int what) throws NoSuchElementException {
        if (!now.isThere(task)) {
            throw new NoSuchElementException();
        }
        switch (what) {
            case 0: return now.upper[task];
            case 1: return now.lower[task];
            case 2: return now.joined[task];
            case 3: return now.early[task];
            case 4: return now.done[task];
            default: throw new NoSuchElementException();
        }
    }

    public int part(int task, int i, int what) throws NoSuchElementException {
        if (!now.isThere(task) || i < 1 || i > 200) {
            throw new NoSuchElementException();
        }
        switch (what) {
            case 0: return now.releaseOf(task, i);
            case 1: return now.deadlineOf(task, i);
            case 2: return now.overlapOf(task, i);
            case 3: return now.groupOf(task, i);
            case 4: return now.deadlineOf(task, i) - now.releaseOf(task, i);
            default: throw new NoSuchElementException();
        }
    }

    public int sheet(int kind, int n, int f, int step) {
        if (kind < 0 || kind > MISSING_SHEET || n > TASKS) {
            return NONE;
        }
        if (kind != MISSING_SHEET && n < 0) {
            return -2;
        }
        int entries = kind == MISSING_SHEET ? 0 : n;
        int place = 0;
        int hurried = 0;
        for (int task = 0; task < TASKS; task++) {
            if (now.isThere(task)) {
                boolean early = place < entries && entry(kind, f + place * step) > 0;
                now.early[task] = early ? 1 : 0;
                hurried += now.early[task];
                place++;
            }
        }
        return kind == MISSING_SHEET ? -3 : hurried;
    }

    private static int entry(int kind, int value) {
        switch (kind) {
            case 0: return (byte) value;
            case 1: return (short) value;
            default: return value;
        }
    }

    // ---- slots, processors

    public int slot() {
        int missedBefore = now.missed;
        past.remember(now);
        now.goBy(tiesNow, NONE);
        told.clear();
        told.add(now.missed - missedBefore);
        told.add(now.readyCount);
        return now.ran;
    }

    public int slots(int n) {
        int missedBefore = now.missed;
        before.copyFrom(now);
        int partsRun = now.goByMany(n, tiesNow);
        if (partsRun < 0) {
            return partsRun;
        }
        past.remember(before);
        told.clear();
        told.add(now.missed - missedBefore);
        told.add(now.idleSlots);
        return partsRun;
    }

    public int processors(int v) {
        before.copyFrom(now);
        return rememberedIfDone(now.takeProcessors(v));
    }

    public int leaves(int task) {
        before.copyFrom(now);
        return rememberedIfDone(now.letGo(task));
    }

    public int hurries(int task) {
        before.copyFrom(now);
        return rememberedIfDone(now.turnEarly(task));
    }

    private int rememberedIfDone(int answer) {
        if (answer >= 0) {
            past.remember(before);
        }
        return answer;
    }

    public int shift() {
        int fault = text.firstBadAct();
        if (fault != NONE) {
            text.clear();
            return -1 - fault;
        }
        before.copyFrom(now);
        int acts = 0;
        int stopped = 0;
        int place = 0;
        for (int k = 0; k < Scroll.MOST_OF_ACTS && place < text.size && stopped == 0; k++) {
            if (answerOfAct(place) < 0) {
                stopped = 1;
            } else {
                acts++;
                place += text.actLength(place);
            }
        }
        text.clear();
        if (acts > 0) {
            past.remember(before);
        }
        told.clear();
        told.add(stopped);
        told.add(now.slot);
        return acts;
    }

    private int answerOfAct(int place) {
        int digit = text.digitAt(place + 1);
        switch (text.signAt(place)) {
            case '*': return now.goByMany(1, tiesNow);
            case 'n': return now.goByMany(10 * digit + text.digitAt(place + 2), tiesNow);
            case 'p': return now.takeProcessors(digit);
            case 'l': return now.letGo(digit);
            case 'h': return now.turnEarly(digit);
            default: return NONE;
        }
    }

    public int undo() {
        return past.bringBack(now);
    }

    // ---- lags, who stands where

    public int lag(int task) {
        if (!now.isThere(task)) {
            return NONE;
        }
        told.clear();
        told.addFraction(now.lagUpper(task), now.lower[task]);
        return 0;
    }

    public int use() {
        int used = now.weightSum();
        told.clear();
        told.addFraction(used, WHOLE);
        told.addFraction(now.processors * WHOLE - used, WHOLE);
        return 0;
    }

    public int order() {
        told.clear();
        int waiting = now.readySet(NONE);
        int size = Integer.bitCount(waiting);
        for (int k = 0; k < size; k++) {
            int first = now.firstOf(waiting, tiesNow);
            told.add(first);
            waiting &= ~(1 << first);
        }
        return size;
    }

    public int behind() {
        int most = NONE;
        for (int task = 0; task < TASKS; task++) {
            if (now.isThere(task) && (most == NONE || now.compareLags(task, most) > 0)) {
                most = task;
            }
        }
        if (most == NONE) {
            return -2;
        }
        told.clear();
        told.addFraction(now.lagUpper(most), now.lower[most]);
        return most;
    }

    public int ahead(int task) {
        if (!now.isThere(task)) {
            return NONE;
        }
        if (!now.isReady(task)) {
            return -2;
        }
        told.clear();
        int waiting = now.readySet(NONE);
        for (int k = 0; k < TASKS; k++) {
            int first = now.firstOf(waiting, tiesNow);
            if (first == task || first == NONE) {
                return k;
            }
            told.add(first);
            waiting &= ~(1 << first);
        }
        return told.size;
    }

    // ---- slots to come

    public int runs(int n) {
        if (n < 0 || n > FAR_SLOTS) {
            return NONE;
        }
        later.copyFrom(now);
        for (int k = 0; k <= n; k++) {
            later.goBy(tiesNow, NONE);
        }
        told.clear();
        told.add(later.missed - now.missed);
        return later.ran;
    }

    public int when(int task, int i) {
        if (!now.isThere(task) || i < 1 || i > MOST_SLOTS) {
            return NONE;
        }
        if (i <= now.done[task]) {
            return -3;
        }
        later.copyFrom(now);
        for (int k = 0; k < FAR_SLOTS; k++) {
            int slot = later.slot;
            later.goBy(tiesNow, NONE);
            if (later.done[task] >= i) {
                told.clear();
                told.add(now.deadlineOf(task, i) - slot);
                return slot;
            }
        }
        return -2;
    }

    public int misses() {
        later.copyFrom(now);
        for (int k = 0; k < FAR_SLOTS; k++) {
            int slot = later.slot;
            later.goBy(tiesNow, NONE);
            if (later.missers != 0) {
                told.clear();
                told.add(later.missers);
                return slot;
            }
        }
        return -2;
    }

    public int round() {
        if (now.thereSet() == 0) {
            return -3;
        }
        later.copyFrom(now);
        int partsRun = 0;
        for (int k = 1; k <= FAR_SLOTS; k++) {
            later.goBy(tiesNow, NONE);
            partsRun += Integer.bitCount(later.ran);
            if (later.hasLagsOf(now)) {
                told.clear();
                told.add(partsRun);
                return k;
            }
        }
        return -2;
    }

    public int share(int task, int n) {
        if (!now.isThere(task) || n < 1 || n > MOST_SLOTS) {
            return NONE;
        }
        later.copyFrom(now);
        int often = 0;
        int inRow = 0;
        int outRow = 0;
        int mostIn = 0;
        int mostOut = 0;
        for (int k = 0; k < n; k++) {
            later.goBy(tiesNow, NONE);
            boolean in = later.hasRun(task);
            inRow = in ? inRow + 1 : 0;
            outRow = in ? 0 : outRow + 1;
            often += in ? 1 : 0;
            mostIn = Math.max(mostIn, inRow);
            mostOut = Math.max(mostOut, outRow);
        }
        told.clear();
        told.add(mostIn);
        told.add(mostOut);
        return often;
    }

    public int pairs(int n) {
        if (n < 1 || n > MOST_SLOTS) {
            return NONE;
        }
        if (Integer.bitCount(now.thereSet()) < 2) {
            return -2;
        }
        countPairs(n);
        int best = NONE;
        for (int a = 0; a < TASKS; a++) {
            for (int b = a + 1; b < TASKS; b++) {
                int pair = a * TASKS + b;
                boolean there = now.isThere(a) && now.isThere(b);
                if (there && (best == NONE || pairCounts[pair] > pairCounts[best])) {
                    best = pair;
                }
            }
        }
        if (best == NONE) {
            return -2;
        }
        told.clear();
        told.add(best / TASKS);
        told.add(best % TASKS);
        return pairCounts[best];
    }

    private void countPairs(int n) {
        Arrays.fill(pairCounts, 0);
        later.copyFrom(now);
        for (int k = 0; k < n; k++) {
            later.goBy(tiesNow, NONE);
            for (int a = 0; a < TASKS; a++) {
                for (int b = a + 1; b < TASKS; b++) {
                    if (later.hasRun(a) && later.hasRun(b)) {
                        pairCounts[a * TASKS + b]++;
                    }
                }
            }
        }
    }

    public int lags(int n) {
        if (n < 1 || n > MOST_SLOTS) {
            return NONE;
        }
        if (now.thereSet() == 0) {
            return -2;
        }
        extremes.clear();
        later.copyFrom(now);
        for (int k = 1; k <= n; k++) {
            later.goBy(tiesNow, NONE);
            for (int task = 0; task < TASKS; task++) {
                if (later.isThere(task)) {
                    extremes.take(task, k, later.lagUpper(task), later.lower[task]);
                }
            }
        }
        told.clear();
        told.add(extremes.behind);
        told.addFraction(extremes.mostUpper, extremes.mostLower);
        told.addFraction(extremes.leastUpper, extremes.leastLower);
        return extremes.task;
    }

    // ---- flows, room

    public int flow(int n) {
        if (n < 1 || n > Stream.SLOTS) {
            return NONE;
        }
        int parts = stream.gather(now, n);
        told.clear();
        told.add(parts);
        return stream.greatest(now.processors);
    }

    public int waits(int task) {
        if (!now.isThere(task)) {
            return NONE;
        }
        int most = -2;
        for (int wait = 0; wait <= LONGEST_WAIT; wait++) {
            if (missesWhenKept(task, wait)) {
                return most;
            }
            most = wait;
        }
        return most;
    }

    private boolean missesWhenKept(int task, int wait) {
        later.copyFrom(now);
        for (int k = 0; k < MOST_SLOTS; k++) {
            later.goBy(tiesNow, k < wait ? task : NONE);
            if (later.missers != 0) {
                return true;
            }
        }
        return false;
    }

    public int room() {
        int left = now.processors * WHOLE - now.weightSum();
        int best = 0;
        int bestE = 0;
        int bestP = 0;
        // The least P comes first, so that of equal WEIGHTS the one in lowest terms is kept.
        for (int p = 1; p <= GREATEST_P; p++) {
            for (int e = 1; e <= p; e++) {
                int weight = e * (WHOLE / p);
                if (weight <= left && weight > best) {
                    best = weight;
                    bestE = e;
                    bestP = p;
                }
            }
        }
        if (best == 0 || now.leastFree() == NONE) {
            return -2;
        }
        told.clear();
        told.add(bestE);
        told.add(bestP);
        return 0;
    }

    public int fewest() {
        int needed = (now.weightSum() + WHOLE - 1) / WHOLE;
        int bound = (needed - 1) * WHOLE;
        int left = now.thereSet();
        int sum = 0;
        int taken = 0;
        for (int k = 0; k < TASKS && left != 0 && sum <= bound; k++) {
            int heaviest = now.heaviestOf(left);
            if (heaviest != NONE) {
                sum += now.weight[heaviest];
                left &= ~(1 << heaviest);
                taken++;
            }
        }
        told.clear();
        told.add(taken);
        return needed;
    }

    // ---- which task it was

    public int heard(int what, int v) {
        return hearsay.add(what, v);
    }

    public int forget() {
        return hearsay.clear();
    }

    public int fits() {
        int fitting = hearsay.fitting(now);
        told.clear();
        told.add(Integer.bitCount(fitting));
        return fitting;
    }

    public int asks() {
        int fitting = hearsay.fitting(now);
        if (fitting == 0) {
            return -2;
        }
        int all = Integer.bitCount(fitting);
        int best = NONE;
        int bestLeft = all + 1;
        for (int what = 0; what < Hearsay.KINDS; what++) {
            for (int v = Hearsay.LEAST[what]; v <= Hearsay.MOST[what]; v++) {
                int so = Integer.bitCount(Hearsay.whereSo(now, fitting, what, v));
                int left = Math.max(so, all - so);
                if (left < bestLeft) {
                    bestLeft = left;
                    best = 100 * what + v;
                }
            }
        }
        told.clear();
        told.add(bestLeft);
        return best;
    }

    // ---- weights that fit

    public int saw(int i, int r) {
        return sightings.add(i, r);
    }

    public int denies() {
        return sightings.clear();
    }

    public int weights() {
        told.clear();
        int fitting = 0;
        for (int p = 1; p <= GREATEST_P; p++) {
            for (int e = 1; e <= p; e++) {
                if (sightings.fit(e, p)) {
                    if (fitting == 0) {
                        told.add(p);
                        told.add(e);
                    }
                    fitting++;
                }
            }
        }
        return fitting;
    }

    public int looks() {
        int best = NONE;
        int bestLeft = 0;
        for (int i = 1; i <= Sightings.LAST_PART; i++) {
            int left = sightings.mostAlike(i);
            if (best == NONE || left < bestLeft) {
                best = i;
                bestLeft = left;
            }
        }
        if (bestLeft == 0) {
            return -2;
        }
        told.clear();
        told.add(bestLeft);
        return best;
    }

    // ---- chances, a game

    public int odds(int n, int k, int p) {
        if (n < 0 || n > MOST_CHANCES || k < 0 || k > MOST_CHANCES || p < 0 || p > 10) {
            return NONE;
        }
        Arrays.fill(chances, 0);
        chances[0] = 1;
        long all = 1;
        for (int slot = 0; slot < n; slot++) {
            for (int kept = MOST_CHANCES; kept > 0; kept--) {
                chances[kept] = chances[kept] * p + chances[kept - 1] * (10 - p);
            }
            chances[0] *= p;
            all *= 10;
        }
        long enough = 0;
        for (int kept = k; kept <= MOST_CHANCES; kept++) {
            enough += chances[kept];
        }
        told.clear();
        told.addFraction(enough, all);
        return 0;
    }

    public int divisors(int n) {
        if (n < 0 || n > 200) {
            return NONE;
        }
        told.clear();
        // What goes into an odd number is odd and leaves an even one; from an even one 1 leaves an
        // odd one; and 1, from which nothing can be taken, is odd. So just the even ones are won.
        if (n == 0 || n % 2 != 0) {
            return 0;
        }
        told.add(1);
        return 1;
    }

    // ---- rests, ties, work

    public int rests(int v) {
        if (v < 0 || v > 18) {
            return NONE;
        }
        told.clear();
        int resting = 0;
        for (int x = 0; x < SHARES; x++) {
            for (int y = 0; y < SHARES; y++) {
                if (isBest(v, x, y) && isBest(v, y, x)) {
                    if (resting == 0) {
                        told.add(x);
                        told.add(y);
                    }
                    resting++;
                }
            }
        }
        return resting;
    }

    private static boolean isBest(int v, int own, int other) {
        int gain = gain(v, own, other);
        for (int another = 0; another < SHARES; another++) {
            if (gain(v, another, other) > gain) {
                return false;
            }
        }
        return true;
    }

    private static int gain(int v, int own, int other) {
        int both = own + other;
        if (both <= v || both <= 0) {
            return 3 * own;
        }
        return 3 * v * own / both - other;
    }

    public int law() {
        int fault = text.readTies(tiesRead);
        text.clear();
        if (fault != NONE) {
            return -10000 - fault;
        }
        int firstByRead = firstMissBy(tiesRead);
        int byRead = later.missed - now.missed;
        int firstByNow = firstMissBy(tiesNow);
        int byNow = later.missed - now.missed;
        told.clear();
        told.add(byRead);
        told.add(byNow);
        told.add(firstByRead);
        told.add(firstByNow);
        return byRead - byNow;
    }

    /** The world of later stands 60 SLOTS behind this one then. */
    private int firstMissBy(Ties ties) {
        int first = NONE;
        later.copyFrom(now);
        for (int k = 0; k < MOST_SLOTS; k++) {
            int slot = later.slot;
            later.goBy(ties, NONE);
            if (first == NONE && later.missers != 0) {
                first = slot;
            }
        }
        return first;
    }

    public int years(int seed, int n) {
        if (n < 1 || n > MOST_SLOTS) {
            return NONE;
        }
        later.copyFrom(now);
        int r = seed;
        for (int k = 0; k < n; k++) {
            r = nextDraw(r);
            int act = drawOf(r, 6);
            if (act < 4) {
                later.goBy(tiesNow, NONE);
            } else {
                r = nextDraw(r);
                int task = drawOf(r, TASKS);
                if (act == 4) {
                    later.turnEarly(task);
                } else {
                    later.letGo(task);
                }
            }
        }
        told.clear();
        told.add(later.thereSet());
        told.add(later.doneOfAll());
        return later.missed - now.missed;
    }

    private static int nextDraw(int r) {
        return r * 1103515245 + 12345;
    }

    private static int drawOf(int r, int n) {
        return n > 0 ? (r >>> 16) % n : 0;
    }

    // ---- kept

    public boolean keep(int i) {
        return past.keepUnder(i, now);
    }

    public boolean again(int i) {
        return past.bringKept(i, now);
    }

    public int count(int what) {
        switch (what) {
            case 0: return now.thereSet();
            case 1: return now.processors;
            case 2: return now.slot;
            case 3: return now.missed;
            case 4: return tiesNow.size;
            case 5: return now.doneOfAll();
            case 6: return hearsay.size;
            case 7: return sightings.size;
            case 8: return past.size;
            case 9: return told.size;
            case 10: return text.size;
            default: return NONE;
        }
    }

    public long row(int i) throws NoSuchElementException {
        if (i < 0 || i >= told.size) {
            throw new NoSuchElementException();
        }
        return told.numbers[i];
    }

    /** Windows of PART i of a TASK that JOINED in SLOT 0. */
    private static final class Parts {
        private Parts() {
        }

        static int release(int e, int p, int i) {
            return e > 0 ? (i - 1) * p / e : 0;
        }

        static int deadline(int e, int p, int i) {
            return e > 0 ? (i * p + e - 1) / e : 0;
        }

        static int overlap(int e, int p, int i) {
            return e > 0 && i * p % e != 0 ? 1 : 0;
        }

        static int group(int e, int p, int i) {
            if (2 * e < p) {
                return 0;
            }
            int least = deadline(e, p, i);
            // Of any E PARTS one behind another one has no OVERLAP, so that the search ends there.
            for (int k = i; k < i + e; k++) {
                int due = deadline(e, p, k);
                if (due > least && due - release(e, p, k) == 3) {
                    return due - 1;
                }
                if (overlap(e, p, k) == 0) {
                    return due;
                }
            }
            return least;
        }
    }

    /** What undo() brings back, with the windows of the next PARTS, which are asked for the most. */
    private static final class World {
        final int[] upper = new int[TASKS];
        final int[] lower = new int[TASKS];
        final int[] weight = new int[TASKS];
        final int[] joined = new int[TASKS];
        final int[] early = new int[TASKS];
        final int[] done = new int[TASKS];
        final int[] release = new int[TASKS];
        final int[] deadline = new int[TASKS];
        final int[] overlap = new int[TASKS];
        final int[] group = new int[TASKS];
        int processors = 1;
        int slot;
        int missed;

        // What the SLOTS that went by last have shown.
        int ran;
        int readyCount;
        int missers;
        int idleSlots;

        World() {
        }

        void copyFrom(World other) {
            System.arraycopy(other.upper, 0, upper, 0, TASKS);
            System.arraycopy(other.lower, 0, lower, 0, TASKS);
            System.arraycopy(other.weight, 0, weight, 0, TASKS);
            System.arraycopy(other.joined, 0, joined, 0, TASKS);
            System.arraycopy(other.early, 0, early, 0, TASKS);
            System.arraycopy(other.done, 0, done, 0, TASKS);
            System.arraycopy(other.release, 0, release, 0, TASKS);
            System.arraycopy(other.deadline, 0, deadline, 0, TASKS);
            System.arraycopy(other.overlap, 0, overlap, 0, TASKS);
            System.arraycopy(other.group, 0, group, 0, TASKS);
            processors = other.processors;
            slot = other.slot;
            missed = other.missed;
        }

        boolean isThere(int task) {
            return task >= 0 && task < TASKS && lower[task] > 0;
        }

        int thereSet() {
            int set = 0;
            for (int task = 0; task < TASKS; task++) {
                if (lower[task] > 0) {
                    set |= 1 << task;
                }
            }
            return set;
        }

        int leastFree() {
            for (int task = 0; task < TASKS; task++) {
                if (lower[task] <= 0) {
                    return task;
                }
            }
            return NONE;
        }

        int doneOfAll() {
            int sum = 0;
            for (int task = 0; task < TASKS; task++) {
                if (lower[task] > 0) {
                    sum += done[task];
                }
            }
            return sum;
        }

        void enter(int task, int e, int p, int isEarly) {
            if (task < 0 || task >= TASKS || p < 1) {
                return;
            }
            upper[task] = e;
            lower[task] = p;
            weight[task] = e * (WHOLE / p);
            joined[task] = slot;
            early[task] = isEarly;
            done[task] = 0;
            lookAtNext(task);
        }

        private void lookAtNext(int task) {
            int e = upper[task];
            int p = lower[task];
            int next = done[task] + 1;
            int nextGroup = Parts.group(e, p, next);
            release[task] = joined[task] + Parts.release(e, p, next);
            deadline[task] = joined[task] + Parts.deadline(e, p, next);
            overlap[task] = Parts.overlap(e, p, next);
            group[task] = nextGroup == 0 ? 0 : joined[task] + nextGroup;
        }

        int releaseOf(int task, int i) {
            return joined[task] + Parts.release(upper[task], lower[task], i);
        }

        int deadlineOf(int task, int i) {
            return joined[task] + Parts.deadline(upper[task], lower[task], i);
        }

        int overlapOf(int task, int i) {
            return Parts.overlap(upper[task], lower[task], i);
        }

        int groupOf(int task, int i) {
            int alone = Parts.group(upper[task], lower[task], i);
            return alone == 0 ? 0 : joined[task] + alone;
        }

        boolean isReady(int task) {
            return isThere(task) && (early[task] != 0 || release[task] <= slot);
        }

        boolean hasRun(int task) {
            return (ran >> task & 1) != 0;
        }

        int readySet(int heldBack) {
            int set = 0;
            for (int task = 0; task < TASKS; task++) {
                if (task != heldBack && isReady(task)) {
                    set |= 1 << task;
                }
            }
            return set;
        }

        int firstOf(int set, Ties ties) {
            int first = NONE;
            for (int task = 0; task < TASKS; task++) {
                if ((set >> task & 1) != 0 && (first == NONE || ties.isAhead(this, task, first))) {
                    first = task;
                }
            }
            return first;
        }

        /** A SLOT goes by; the next PART of heldBack (NONE: of no TASK) is as if it were not READY. */
        void goBy(Ties ties, int heldBack) {
            int waiting = readySet(heldBack);
            readyCount = Integer.bitCount(waiting);
            ran = 0;
            for (int k = 0; k < processors && waiting != 0; k++) {
                int chosen = 1 << firstOf(waiting, ties);
                ran |= chosen;
                waiting &= ~chosen;
            }
            missers = 0;
            for (int task = 0; task < TASKS; task++) {
                if (hasRun(task)) {
                    done[task]++;
                    lookAtNext(task);
                }
                if (isThere(task) && deadline[task] == slot + 1) {
                    missers |= 1 << task;
                    missed++;
                }
            }
            slot++;
        }

        int goByMany(int n, Ties ties) {
            if (n < 0 || n > MOST_SLOTS) {
                return NONE;
            }
            int partsRun = 0;
            idleSlots = 0;
            for (int k = 0; k < n; k++) {
                goBy(ties, NONE);
                int busy = Integer.bitCount(ran);
                partsRun += busy;
                if (busy < processors) {
                    idleSlots++;
                }
            }
            return partsRun;
        }

        int takeProcessors(int v) {
            if (v < 1 || v > MOST_PROCESSORS) {
                return NONE;
            }
            if (v == processors) {
                return -2;
            }
            if (weightSum() > v * WHOLE) {
                return -3;
            }
            int old = processors;
            processors = v;
            return 10 + old;
        }

        int letGo(int task) {
            if (!isThere(task)) {
                return NONE;
            }
            if (slot < mayLeaveFrom(task)) {
                return -3;
            }
            lower[task] = 0;
            weight[task] = 0;
            return Integer.bitCount(thereSet());
        }

        private int mayLeaveFrom(int task) {
            int last = done[task];
            if (last == 0) {
                return slot;
            }
            int groupDeadline = groupOf(task, last);
            if (groupDeadline != 0) {
                return groupDeadline;
            }
            return deadlineOf(task, last) + overlapOf(task, last);
        }

        int turnEarly(int task) {
            if (!isThere(task)) {
                return NONE;
            }
            early[task] = 1 - early[task];
            return early[task];
        }

        int weightSum() {
            int sum = 0;
            for (int task = 0; task < TASKS; task++) {
                sum += weight[task];
            }
            return sum;
        }

        int heaviestOf(int set) {
            int heaviest = NONE;
            for (int task = 0; task < TASKS; task++) {
                boolean in = (set >> task & 1) != 0;
                if (in && (heaviest == NONE || weight[task] > weight[heaviest])) {
                    heaviest = task;
                }
            }
            return heaviest;
        }

        /** LAG is this number by P. */
        int lagUpper(int task) {
            return (slot - joined[task]) * upper[task] - done[task] * lower[task];
        }

        int compareLags(int task, int other) {
            long own = (long) lagUpper(task) * lower[other];
            long others = (long) lagUpper(other) * lower[task];
            return Long.compare(own, others);
        }

        boolean hasLagsOf(World other) {
            for (int task = 0; task < TASKS; task++) {
                if (isThere(task) && lagUpper(task) != other.lagUpper(task)) {
                    return false;
                }
            }
            return true;
        }
    }

    /** TIES: letters in their order. */
    private static final class Ties {
        static final int LETTERS = 5;

        final int[] letters = new int[LETTERS];
        int size = 3;

        Ties() {
            letters[0] = 'd';
            letters[1] = 'b';
            letters[2] = 'g';
        }

        void copyFrom(Ties other) {
            System.arraycopy(other.letters, 0, letters, 0, LETTERS);
            size = other.size;
        }

        void clear() {
            size = 0;
        }

        /** False, if it is no letter of TIES or was there. */
        boolean add(int letter) {
            if (letter != 'd' && letter != 'b' && letter != 'g' && letter != 'w' && letter != 'r') {
                return false;
            }
            for (int k = 0; k < size; k++) {
                if (letters[k] == letter) {
                    return false;
                }
            }
            if (size >= LETTERS) {
                return false;
            }
            letters[size] = letter;
            size++;
            return true;
        }

        boolean isAhead(World world, int task, int other) {
            for (int k = 0; k < size; k++) {
                int by = leadBy(letters[k], world, task, other);
                if (by != 0) {
                    return by > 0;
                }
            }
            return task < other;
        }

        /** Above 0: task is ahead; below 0: other is; 0: none is by this letter. */
        private static int leadBy(int letter, World world, int task, int other) {
            switch (letter) {
                case 'd':
                    return Integer.compare(world.deadline[other], world.deadline[task]);
                case 'b':
                    return Integer.compare(world.overlap[task], world.overlap[other]);
                case 'g':
                    if (world.overlap[task] == 0 || world.overlap[other] == 0) {
                        return 0;
                    }
                    return Integer.compare(world.group[task], world.group[other]);
                case 'w':
                    return Integer.compare(world.weight[task], world.weight[other]);
                case 'r':
                    return Integer.compare(world.release[other], world.release[task]);
                default:
                    return 0;
            }
        }
    }

    /** THE TEXT, and how it is read. */
    private static final class Scroll {
        private static final int MOST_SIGNS = 80;
        private static final int MOST_OF_LINES = 55;
        static final int MOST_OF_ACTS = 60;

        private final char[] signs = new char[MOST_SIGNS];
        int size;
        private int place;
        private int bound;

        Scroll() {
        }

        int append(int v) {
            if (size + 4 > MOST_SIGNS) {
                return NONE;
            }
            for (int k = 0; k < 4; k++) {
                signs[size + k] = (char) (v >>> (24 - 8 * k) & 255);
            }
            size += 4;
            return size;
        }

        boolean cutTo(int n) {
            if (n < 0 || n > size) {
                return false;
            }
            size = n;
            return true;
        }

        void clear() {
            size = 0;
        }

        int signAt(int p) {
            return p >= 0 && p < size ? signs[p] : NONE;
        }

        int digitAt(int p) {
            int sign = signAt(p);
            return sign >= '0' && sign <= '9' ? sign - '0' : NONE;
        }

        /** NONE, or where the sign is that can't stand there. */
        int readTies(Ties into) {
            into.clear();
            for (int p = 0; p < size; p++) {
                if (!into.add(signs[p])) {
                    return p;
                }
            }
            return NONE;
        }

        /** TASKS enter the world as they are read: how many, or -1 - p. */
        int readLines(World world) {
            if (size == 0) {
                return 0;
            }
            place = 0;
            bound = Math.min(size, MOST_OF_LINES);
            for (int lines = 1; lines <= TASKS; lines++) {
                int fault = readLine(world);
                if (fault != NONE) {
                    return -1 - fault;
                }
                if (place >= bound) {
                    return size > bound ? -1 - bound : lines;
                }
                if (signs[place] != ';') {
                    return -1 - place;
                }
                place++;
            }
            return -1 - place;
        }

        private int readLine(World world) {
            int task = world.leastFree();
            int startOfE = place;
            int e = task == NONE ? 0 : readNumber();
            if (e == 0 || place >= bound || signs[place] != '/') {
                return place;
            }
            place++;
            int startOfP = place;
            int p = readNumber();
            if (p == 0) {
                return place;
            }
            if (p > GREATEST_P) {
                return startOfP;
            }
            if (e > p) {
                return startOfE;
            }
            boolean early = place < bound && signs[place] == 'e';
            if (early) {
                place++;
            }
            world.enter(task, e, p, early ? 1 : 0);
            return NONE;
        }

        /** One or two digits without 0 ahead; 0 if there are none, and nothing is read then. */
        private int readNumber() {
            int first = place < bound ? digitAt(place) : NONE;
            if (first < 1) {
                return 0;
            }
            place++;
            int second = place < bound ? digitAt(place) : NONE;
            if (second == NONE) {
                return first;
            }
            place++;
            return 10 * first + second;
        }

        /** How many signs the ACT at p has; 0 if none begins so. */
        int actLength(int p) {
            switch (signAt(p)) {
                case '*': return 1;
                case 'n': return 3;
                case 'p':
                case 'l':
                case 'h': return 2;
                default: return 0;
            }
        }

        /** NONE, or where the sign is that can't stand there. */
        int firstBadAct() {
            int most = Math.min(size, MOST_OF_ACTS);
            int missing = 0;
            for (int p = 0; p < most; p++) {
                if (missing > 0) {
                    if (digitAt(p) == NONE) {
                        return p;
                    }
                    missing--;
                } else {
                    missing = actLength(p) - 1;
                    if (missing < 0) {
                        return p;
                    }
                }
            }
            return missing > 0 || size > most ? most : NONE;
        }
    }

    /** The ROW. */
    private static final class Row {
        private static final int MOST_NUMBERS = 8;
        private static final int MOST_STEPS = 100;

        final long[] numbers = new long[MOST_NUMBERS];
        int size;

        Row() {
        }

        void clear() {
            size = 0;
        }

        void add(long number) {
            if (size < MOST_NUMBERS) {
                numbers[size] = number;
                size++;
            }
        }

        void addFraction(long upper, long lower) {
            long common = commonDivisor(Math.abs(upper), lower);
            if (common <= 0) {
                return;
            }
            add(upper / common);
            add(lower / common);
        }

        private static long commonDivisor(long a, long b) {
            long greater = a;
            long lesser = b;
            for (int k = 0; k < MOST_STEPS && lesser != 0; k++) {
                long rest = greater % lesser;
                greater = lesser;
                lesser = rest;
            }
            return greater;
        }
    }

    /** What can be undone, and what is kept under a number. */
    private static final class Past {
        private final World[] ring = new World[MOST_UNDONE];
        private int oldest;
        int size;
        private final World[] kept = new World[MOST_KEPT];
        private final boolean[] isKept = new boolean[MOST_KEPT];

        Past() {
            for (int k = 0; k < MOST_UNDONE; k++) {
                ring[k] = new World();
            }
            for (int k = 0; k < MOST_KEPT; k++) {
                kept[k] = new World();
            }
        }

        void remember(World world) {
            ring[(oldest + size) % MOST_UNDONE].copyFrom(world);
            if (size < MOST_UNDONE) {
                size++;
            } else {
                oldest = (oldest + 1) % MOST_UNDONE;
            }
        }

        int bringBack(World into) {
            if (size == 0) {
                return NONE;
            }
            size--;
            into.copyFrom(ring[(oldest + size) % MOST_UNDONE]);
            return size;
        }

        boolean keepUnder(int i, World world) {
            if (i < 0 || i >= MOST_KEPT) {
                return false;
            }
            kept[i].copyFrom(world);
            isKept[i] = true;
            return true;
        }

        boolean bringKept(int i, World into) {
            if (i < 0 || i >= MOST_KEPT || !isKept[i]) {
                return false;
            }
            into.copyFrom(kept[i]);
            size = 0;
            return true;
        }
    }

    /** What was heard of a TASK. */
    private static final class Hearsay {
        static final int KINDS = 5;
        static final int[] LEAST = {1, 1, 0, 0, 0};
        static final int[] MOST = {12, 12, 1, 1, 20};
        private static final int MOST_HEARD = 12;

        private final int[] whats = new int[MOST_HEARD];
        private final int[] values = new int[MOST_HEARD];
        int size;

        Hearsay() {
        }

        int add(int what, int v) {
            if (what < 0 || what >= KINDS || v < LEAST[what] || v > MOST[what]) {
                return NONE;
            }
            if (size >= MOST_HEARD) {
                return NONE;
            }
            whats[size] = what;
            values[size] = v;
            size++;
            return size;
        }

        int clear() {
            int old = size;
            size = 0;
            return old;
        }

        int fitting(World world) {
            int set = world.thereSet();
            for (int k = 0; k < size; k++) {
                set = whereSo(world, set, whats[k], values[k]);
            }
            return set;
        }

        static int whereSo(World world, int among, int what, int v) {
            int set = 0;
            for (int task = 0; task < TASKS; task++) {
                if ((among >> task & 1) != 0 && isSo(world, task, what, v)) {
                    set |= 1 << task;
                }
            }
            return set;
        }

        private static boolean isSo(World world, int task, int what, int v) {
            switch (what) {
                case 0: return world.lower[task] == v;
                case 1: return world.upper[task] >= v;
                case 2: return world.isReady(task) == (v == 1);
                case 3: return 2 * world.upper[task] >= world.lower[task] == (v == 1);
                case 4: return world.done[task] >= v;
                default: return false;
            }
        }
    }

    /** What was seen of a TASK that JOINED in SLOT 0. */
    private static final class Sightings {
        static final int LAST_PART = 12;
        private static final int LAST_RELEASE = 150;
        private static final int MOST_SEEN = 10;

        private final int[] parts = new int[MOST_SEEN];
        private final int[] releases = new int[MOST_SEEN];
        private final int[] alike = new int[LAST_RELEASE + 1];
        int size;

        Sightings() {
        }

        int add(int i, int r) {
            if (i < 1 || i > LAST_PART || r < 0 || r > LAST_RELEASE || size >= MOST_SEEN) {
                return NONE;
            }
            parts[size] = i;
            releases[size] = r;
            size++;
            return size;
        }

        int clear() {
            int old = size;
            size = 0;
            return old;
        }

        boolean fit(int e, int p) {
            for (int k = 0; k < size; k++) {
                if (Parts.release(e, p, parts[k]) != releases[k]) {
                    return false;
                }
            }
            return true;
        }

        /** Of WEIGHTS that fit, how many at most have the same RELEASE of PART i. */
        int mostAlike(int i) {
            Arrays.fill(alike, 0);
            int most = 0;
            for (int p = 1; p <= GREATEST_P; p++) {
                for (int e = 1; e <= p; e++) {
                    int release = Parts.release(e, p, i);
                    if (release >= 0 && release <= LAST_RELEASE && fit(e, p)) {
                        alike[release]++;
                        most = Math.max(most, alike[release]);
                    }
                }
            }
            return most;
        }
    }

    /** The greatest and the least LAG of those that were taken. */
    private static final class Extremes {
        int task;
        int behind;
        long mostUpper;
        long mostLower;
        long leastUpper;
        long leastLower;

        Extremes() {
        }

        void clear() {
            task = NONE;
        }

        void take(int ofTask, int behindSlots, long upper, long lower) {
            boolean first = task == NONE;
            if (first || upper * mostLower > mostUpper * lower) {
                task = ofTask;
                behind = behindSlots;
                mostUpper = upper;
                mostLower = lower;
            }
            if (first || upper * leastLower < leastUpper * lower) {
                leastUpper = upper;
                leastLower = lower;
            }
        }
    }

    /**
     * A flow from PARTS, through PLACES (a TASK in a SLOT, for one PART), to SLOTS (for as many as
     * there are PROCESSORS). Its nodes are PARTS, 8 of each TASK, then PLACES, 8 of each TASK, then
     * SLOTS.
     */
    private static final class Stream {
        static final int SLOTS = 8;
        private static final int PLACES = TASKS * SLOTS;
        private static final int FIRST_SLOT = 2 * PLACES;
        private static final int NODES = FIRST_SLOT + SLOTS;
        private static final int UNSEEN = -2;

        private final int[] from = new int[PLACES];
        private final int[] till = new int[PLACES];
        private final int[] partIn = new int[PLACES];
        private final int[] loads = new int[SLOTS];
        private final int[] cameFrom = new int[NODES];
        private final int[] queue = new int[NODES];
        private int queued;

        Stream() {
        }

        /** How many PARTS there are; their SLOTS are counted from this one on. */
        int gather(World world, int n) {
            int parts = 0;
            Arrays.fill(till, 0);
            for (int task = 0; task < TASKS; task++) {
                if (world.isThere(task)) {
                    parts += gatherOf(world, task, n);
                }
            }
            return parts;
        }

        private int gatherOf(World world, int task, int n) {
            int lower = world.lower[task];
            int gone = (world.slot - world.joined[task]) * world.upper[task];
            int firstInTime = lower > 0 ? gone / lower + 1 : 1;
            int first = Math.max(world.done[task] + 1, firstInTime);
            for (int k = 0; k < SLOTS; k++) {
                int due = world.deadlineOf(task, first + k) - world.slot;
                if (due > n) {
                    return k;
                }
                int released = world.releaseOf(task, first + k) - world.slot;
                from[task * SLOTS + k] = world.early[task] != 0 ? 0 : Math.max(released, 0);
                till[task * SLOTS + k] = due;
            }
            return SLOTS;
        }

        int greatest(int processors) {
            Arrays.fill(partIn, NONE);
            Arrays.fill(loads, 0);
            int parts = 0;
            for (int part = 0; part < PLACES; part++) {
                if (till[part] > 0 && findPlace(part, processors)) {
                    parts++;
                }
            }
            return parts;
        }

        private boolean findPlace(int part, int processors) {
            Arrays.fill(cameFrom, UNSEEN);
            queued = 0;
            reach(part, NONE);
            for (int head = 0; head < queued && head < NODES; head++) {
                int node = queue[head];
                if (node < PLACES) {
                    goOnFromPart(node);
                } else if (node < FIRST_SLOT) {
                    goOnFromPlace(node - PLACES);
                } else if (loads[node - FIRST_SLOT] < processors) {
                    loads[node - FIRST_SLOT]++;
                    settle(node);
                    return true;
                } else {
                    goOnFromSlot(node - FIRST_SLOT);
                }
            }
            return false;
        }

        private void reach(int node, int source) {
            if (cameFrom[node] == UNSEEN && queued < NODES) {
                cameFrom[node] = source;
                queue[queued] = node;
                queued++;
            }
        }

        private void goOnFromPart(int part) {
            int firstPlace = part - part % SLOTS;
            for (int slot = from[part]; slot < till[part] && slot < SLOTS; slot++) {
                reach(PLACES + firstPlace + slot, part);
            }
        }

        private void goOnFromPlace(int place) {
            if (partIn[place] == NONE) {
                reach(FIRST_SLOT + place % SLOTS, PLACES + place);
            } else {
                reach(partIn[place], PLACES + place);
            }
        }

        /** A PART that is run in this SLOT may give way. */
        private void goOnFromSlot(int slot) {
            for (int task = 0; task < TASKS; task++) {
                int place = task * SLOTS + slot;
                if (partIn[place] != NONE) {
                    reach(PLACES + place, FIRST_SLOT + slot);
                }
            }
        }

        /** Along the way back each PLACE takes the PART, or is left, from which it was reached. */
        private void settle(int end) {
            int node = end;
            for (int k = 0; k < NODES && node != NONE; k++) {
                int source = cameFrom[node];
                if (node >= PLACES && node < FIRST_SLOT) {
                    partIn[node - PLACES] = source < PLACES ? source : NONE;
                }
                node = source;
            }
        }
    }
}
