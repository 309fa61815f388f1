import java.math.BigInteger;
import java.util.ArrayList;
import java.util.Arrays;
import java.util.HashMap;
import java.util.List;
import java.util.Map;
import java.util.NoSuchElementException;
import java.util.regex.Matcher;
import java.util.regex.Pattern;

/**
 * The document told a second time, by other means (the Java library, plain search, no room to
 * spare): TwinTest compares FairSlots with it.
 */
final class Twin {
    static final class Job {
        int e;
        int p;
        int joined;
        int done;
        boolean early;

        Job copy() {
            Job j = new Job();
            j.e = e;
            j.p = p;
            j.joined = joined;
            j.done = done;
            j.early = early;
            return j;
        }

        int release(int i) {
            return joined + Math.floorDiv((i - 1) * p, e);
        }

        int deadline(int i) {
            return joined - Math.floorDiv(-(i * p), e);
        }

        int overlap(int i) {
            return new Ratio(i * p, e).low.equals(BigInteger.ONE) ? 0 : 1;
        }

        int length(int i) {
            return deadline(i) - release(i);
        }

        int group(int i) {
            if (2 * e < p) {
                return 0;
            }
            for (int g = deadline(i); ; g++) {
                for (int k = i; deadline(k) <= g + 1; k++) {
                    if (deadline(k) == g && overlap(k) == 0) {
                        return g;
                    }
                    if (deadline(k) == g + 1 && length(k) == 3) {
                        return g;
                    }
                }
            }
        }

        Ratio weight() {
            return new Ratio(e, p);
        }
    }

    static final class Ratio implements Comparable<Ratio> {
        final BigInteger up;
        final BigInteger low;

        Ratio(long up, long low) {
            this(BigInteger.valueOf(up), BigInteger.valueOf(low));
        }

        Ratio(BigInteger up, BigInteger low) {
            BigInteger common = up.gcd(low);
            this.up = up.divide(common);
            this.low = low.divide(common);
        }

        Ratio plus(Ratio o) {
            return new Ratio(up.multiply(o.low).add(o.up.multiply(low)), low.multiply(o.low));
        }

        Ratio minus(Ratio o) {
            return plus(new Ratio(o.up.negate(), o.low));
        }

        @Override
        public int compareTo(Ratio o) {
            return up.multiply(o.low).compareTo(o.up.multiply(low));
        }
    }

    static final class Land {
        Job[] jobs = new Job[8];
        int processors = 1;
        int slot = 0;
        int misses = 0;

        Land copy() {
            Land l = new Land();
            for (int k = 0; k < 8; k++) {
                l.jobs[k] = jobs[k] == null ? null : jobs[k].copy();
            }
            l.processors = processors;
            l.slot = slot;
            l.misses = misses;
            return l;
        }

        List<Integer> there() {
            List<Integer> list = new ArrayList<>();
            for (int k = 0; k < 8; k++) {
                if (jobs[k] != null) {
                    list.add(k);
                }
            }
            return list;
        }

        boolean has(int task) {
            return task >= 0 && task < 8 && jobs[task] != null;
        }

        Ratio use() {
            Ratio sum = new Ratio(0, 1);
            for (int k : there()) {
                sum = sum.plus(jobs[k].weight());
            }
            return sum;
        }

        boolean ready(int task) {
            Job j = jobs[task];
            return j.early || j.release(j.done + 1) <= slot;
        }

        Ratio lag(int task) {
            Job j = jobs[task];
            return new Ratio((slot - j.joined) * j.e - j.done * j.p, j.p);
        }

        boolean ahead(String ties, int x, int y) {
            Job a = jobs[x];
            Job b = jobs[y];
            int i = a.done + 1;
            int k = b.done + 1;
            for (char c : ties.toCharArray()) {
                if (c == 'd' && a.deadline(i) != b.deadline(k)) {
                    return a.deadline(i) < b.deadline(k);
                }
                if (c == 'b' && a.overlap(i) != b.overlap(k)) {
                    return a.overlap(i) > b.overlap(k);
                }
                if (c == 'g' && a.overlap(i) == 1 && b.overlap(k) == 1 && a.group(i) != b.group(k)) {
                    return a.group(i) > b.group(k);
                }
                if (c == 'w' && a.weight().compareTo(b.weight()) != 0) {
                    return a.weight().compareTo(b.weight()) > 0;
                }
                if (c == 'r' && a.release(i) != b.release(k)) {
                    return a.release(i) < b.release(k);
                }
            }
            return x < y;
        }

        List<Integer> order(String ties, int but) {
            List<Integer> left = new ArrayList<>();
            for (int k : there()) {
                if (k != but && ready(k)) {
                    left.add(k);
                }
            }
            List<Integer> order = new ArrayList<>();
            while (!left.isEmpty()) {
                int kept = left.get(0);
                for (int k : left) {
                    if (k != kept && ahead(ties, k, kept)) {
                        kept = k;
                    }
                }
                order.add(kept);
                left.remove(Integer.valueOf(kept));
            }
            return order;
        }

        /** Those that were run; then those that missed. */
        int[] step(String ties, int but) {
            List<Integer> order = order(ties, but);
            int run = 0;
            for (int k = 0; k < order.size() && k < processors; k++) {
                run |= 1 << order.get(k);
                jobs[order.get(k)].done++;
            }
            int missed = 0;
            for (int k : there()) {
                if (jobs[k].deadline(jobs[k].done + 1) == slot + 1) {
                    missed |= 1 << k;
                    misses++;
                }
            }
            slot++;
            return new int[] {run, missed, order.size()};
        }

        int doneOfAll() {
            int sum = 0;
            for (int k : there()) {
                sum += jobs[k].done;
            }
            return sum;
        }

        int leave(int task) {
            if (!has(task)) {
                return -1;
            }
            Job j = jobs[task];
            if (j.done > 0) {
                int from = j.group(j.done) != 0 ? j.group(j.done) : j.deadline(j.done) + j.overlap(j.done);
                if (slot < from) {
                    return -3;
                }
            }
            jobs[task] = null;
            return there().size();
        }

        int hurry(int task) {
            if (!has(task)) {
                return -1;
            }
            jobs[task].early = !jobs[task].early;
            return jobs[task].early ? 1 : 0;
        }

        int take(int v) {
            if (v < 1 || v > 4) {
                return -1;
            }
            if (v == processors) {
                return -2;
            }
            if (use().compareTo(new Ratio(v, 1)) > 0) {
                return -3;
            }
            int answer = 10 + processors;
            processors = v;
            return answer;
        }
    }

    Land land = new Land();
    String text = "";
    String ties = "dbg";
    List<Long> row = new ArrayList<>();
    final List<Land> past = new ArrayList<>();
    final Land[] kept = new Land[2];
    final List<int[]> heard = new ArrayList<>();
    final List<int[]> seen = new ArrayList<>();

    private static int bits(List<Integer> tasks) {
        int set = 0;
        for (int k : tasks) {
            set |= 1 << k;
        }
        return set;
    }

    private void tell(Object... numbers) {
        row = new ArrayList<>();
        for (Object n : numbers) {
            if (n instanceof Ratio r) {
                row.add(r.up.longValueExact());
                row.add(r.low.longValueExact());
            } else if (n instanceof List<?> l) {
                for (Object k : l) {
                    row.add((long) (Integer) k);
                }
            } else {
                row.add((long) (Integer) n);
            }
        }
    }

    private void remember(Land before) {
        past.add(before);
        if (past.size() > 12) {
            past.remove(0);
        }
    }

    private String taken() {
        String t = text;
        text = "";
        return t;
    }

    int sign(int v) {
        if (text.length() > 76) {
            return -1;
        }
        for (byte b : BigInteger.valueOf(v & 0xffffffffL | 1L << 32).toByteArray()) {
            text += (char) (b & 255);
        }
        // The 1 ahead of the four bytes kept those of 0 in place.
        text = text.substring(0, text.length() - 5) + text.substring(text.length() - 4);
        return text.length();
    }

    boolean end(int n) {
        if (n < 0 || n > text.length()) {
            return false;
        }
        text = text.substring(0, n);
        return true;
    }

    int joins() {
        String whole = taken();
        if (whole.isEmpty()) {
            return 0;
        }
        boolean longer = whole.length() > 55;
        String t = longer ? whole.substring(0, 55) : whole;
        Land then = land.copy();
        int at = 0;
        int lines = 0;
        while (true) {
            if (then.there().size() == 8) {
                return -1 - at;
            }
            Matcher m = Pattern.compile("([1-9][0-9]?)(/)([1-9][0-9]?)").matcher(t);
            m.region(at, t.length());
            if (!m.lookingAt()) {
                return -1 - firstBad(t, at, "[1-9][0-9]?/[1-9][0-9]?");
            }
            int e = Integer.parseInt(m.group(1));
            int p = Integer.parseInt(m.group(3));
            if (p > 12) {
                return -1 - m.start(3);
            }
            if (e > p) {
                return -1 - m.start(1);
            }
            at = m.end();
            boolean early = t.startsWith("e", at);
            if (early) {
                at++;
            }
            Job j = new Job();
            j.e = e;
            j.p = p;
            j.early = early;
            j.joined = land.slot;
            for (int k = 0; k < 8; k++) {
                if (then.jobs[k] == null) {
                    then.jobs[k] = j;
                    break;
                }
            }
            lines++;
            if (at == t.length()) {
                break;
            }
            if (t.charAt(at) != ';') {
                return -1 - at;
            }
            at++;
        }
        if (longer) {
            return -56;
        }
        if (then.use().compareTo(new Ratio(then.processors, 1)) > 0) {
            return -100;
        }
        remember(land);
        land = then;
        return lines;
    }

    /** The first place from which on nothing that goes on could match. */
    private static int firstBad(String t, int from, String pattern) {
        for (int till = from; till < t.length(); till++) {
            Matcher m = Pattern.compile(pattern).matcher(t.substring(from, till + 1));
            if (!m.matches() && !m.hitEnd()) {
                return till;
            }
        }
        return t.length();
    }

    private static int badTie(String t) {
        for (int k = 0; k < t.length(); k++) {
            if ("dbgwr".indexOf(t.charAt(k)) < 0 || t.indexOf(t.charAt(k)) < k) {
                return k;
            }
        }
        return -1;
    }

    int ties() {
        String t = taken();
        int bad = badTie(t);
        if (bad >= 0) {
            return -1 - bad;
        }
        ties = t;
        return t.length();
    }

    int task(int task, int what) {
        if (!land.has(task) || what < 0 || what > 4) {
            throw new NoSuchElementException();
        }
        Job j = land.jobs[task];
        return new int[] {j.e, j.p, j.joined, j.early ? 1 : 0, j.done}[what];
    }

    int part(int task, int i, int what) {
        if (!land.has(task) || what < 0 || what > 4 || i < 1 || i > 200) {
            throw new NoSuchElementException();
        }
        Job j = land.jobs[task];
        return new int[] {j.release(i), j.deadline(i), j.overlap(i), j.group(i), j.length(i)}[what];
    }

    int sheet(int kind, int n, int f, int step) {
        if (kind < 0 || kind > 3 || n > 8) {
            return -1;
        }
        if (kind < 3 && n < 0) {
            return -2;
        }
        List<Integer> told = new ArrayList<>();
        int v = f;
        for (int k = 0; kind < 3 && k < n; k++) {
            told.add(kind == 0 ? (int) (byte) v : kind == 1 ? (int) (short) v : v);
            v += step;
        }
        int early = 0;
        List<Integer> there = land.there();
        for (int k = 0; k < there.size(); k++) {
            boolean is = k < told.size() && told.get(k) > 0;
            land.jobs[there.get(k)].early = is;
            early += is ? 1 : 0;
        }
        return kind == 3 ? -3 : early;
    }

    int slot() {
        Land before = land.copy();
        remember(before);
        int[] went = land.step(ties, -1);
        tell(land.misses - before.misses, went[2]);
        return went[0];
    }

    private int[] go(int n) {
        int run = 0;
        int idle = 0;
        for (int k = 0; k < n; k++) {
            int r = Integer.bitCount(land.step(ties, -1)[0]);
            run += r;
            idle += r < land.processors ? 1 : 0;
        }
        return new int[] {run, idle};
    }

    int slots(int n) {
        if (n < 0 || n > 60) {
            return -1;
        }
        Land before = land.copy();
        remember(before);
        int[] went = go(n);
        tell(land.misses - before.misses, went[1]);
        return went[0];
    }

    private int done(Land before, int answer) {
        if (answer >= 0) {
            remember(before);
        }
        return answer;
    }

    int processors(int v) {
        return done(land.copy(), land.take(v));
    }

    int leaves(int task) {
        return done(land.copy(), land.leave(task));
    }

    int hurries(int task) {
        return done(land.copy(), land.hurry(task));
    }

    int shift() {
        String t = taken();
        String act = "(\\*|n[0-9][0-9]|[plh][0-9])";
        String first = t.length() > 60 ? t.substring(0, 60) : t;
        boolean whole = first.matches(act + "*");
        if (!whole) {
            return -1 - firstBad(first, 0, act + "*");
        }
        if (t.length() > 60) {
            return -61;
        }
        Land before = land.copy();
        int acts = 0;
        int stopped = 0;
        Matcher m = Pattern.compile(act).matcher(t);
        while (stopped == 0 && m.find()) {
            String a = m.group();
            int v = a.length() > 1 ? Integer.parseInt(a.substring(1)) : 1;
            char c = a.charAt(0);
            int answer;
            if (c == '*' || c == 'n') {
                answer = v > 60 ? -1 : go(v)[0];
            } else {
                answer = c == 'p' ? land.take(v) : c == 'l' ? land.leave(v) : land.hurry(v);
            }
            if (answer < 0) {
                stopped = 1;
            } else {
                acts++;
            }
        }
        if (acts > 0) {
            remember(before);
        }
        tell(stopped, land.slot);
        return acts;
    }

    int undo() {
        if (past.isEmpty()) {
            return -1;
        }
        land = past.remove(past.size() - 1);
        return past.size();
    }

    int lag(int task) {
        if (!land.has(task)) {
            return -1;
        }
        tell(land.lag(task));
        return 0;
    }

    int use() {
        tell(land.use(), new Ratio(land.processors, 1).minus(land.use()));
        return 0;
    }

    int order() {
        List<Integer> order = land.order(ties, -1);
        tell(order);
        return order.size();
    }

    int behind() {
        int best = -2;
        for (int k : land.there()) {
            if (best < 0 || land.lag(k).compareTo(land.lag(best)) > 0) {
                best = k;
            }
        }
        if (best >= 0) {
            tell(land.lag(best));
        }
        return best;
    }

    int ahead(int task) {
        if (!land.has(task)) {
            return -1;
        }
        List<Integer> order = land.order(ties, -1);
        int at = order.indexOf(task);
        if (at < 0) {
            return -2;
        }
        tell(order.subList(0, at));
        return at;
    }

    /** What each of the next n SLOTS shows: who is run, who misses. */
    private int[][] come(int n, String by) {
        Land l = land.copy();
        int[][] come = new int[n][];
        for (int k = 0; k < n; k++) {
            come[k] = l.step(by, -1);
        }
        return come;
    }

    private static int missesIn(int[][] come) {
        int sum = 0;
        for (int[] c : come) {
            sum += Integer.bitCount(c[1]);
        }
        return sum;
    }

    int runs(int n) {
        if (n < 0 || n > 99) {
            return -1;
        }
        int[][] come = come(n + 1, ties);
        tell(missesIn(come));
        return come[n][0];
    }

    int when(int task, int i) {
        if (!land.has(task) || i < 1 || i > 60) {
            return -1;
        }
        int run = land.jobs[task].done;
        if (i <= run) {
            return -3;
        }
        int[][] come = come(99, ties);
        for (int k = 0; k < 99; k++) {
            run += come[k][0] >> task & 1;
            if (run == i) {
                tell(land.jobs[task].deadline(i) - (land.slot + k));
                return land.slot + k;
            }
        }
        return -2;
    }

    private int firstMiss(int[][] come) {
        for (int k = 0; k < come.length; k++) {
            if (come[k][1] != 0) {
                return k;
            }
        }
        return -1;
    }

    int misses() {
        int[][] come = come(99, ties);
        int k = firstMiss(come);
        if (k < 0) {
            return -2;
        }
        tell(come[k][1]);
        return land.slot + k;
    }

    int round() {
        if (land.there().isEmpty()) {
            return -3;
        }
        Land l = land.copy();
        int run = 0;
        for (int k = 1; k <= 99; k++) {
            run += Integer.bitCount(l.step(ties, -1)[0]);
            boolean same = true;
            for (int t : land.there()) {
                same &= l.lag(t).compareTo(land.lag(t)) == 0;
            }
            if (same) {
                tell(run);
                return k;
            }
        }
        return -2;
    }

    int share(int task, int n) {
        if (!land.has(task) || n < 1 || n > 60) {
            return -1;
        }
        StringBuilder s = new StringBuilder();
        for (int[] c : come(n, ties)) {
            s.append((c[0] >> task & 1) != 0 ? '1' : '0');
        }
        int ones = 0;
        int zeros = 0;
        for (String part : s.toString().split("0")) {
            ones = Math.max(ones, part.length());
        }
        for (String part : s.toString().split("1")) {
            zeros = Math.max(zeros, part.length());
        }
        tell(ones, zeros);
        return s.toString().replace("0", "").length();
    }

    int pairs(int n) {
        if (n < 1 || n > 60) {
            return -1;
        }
        List<Integer> there = land.there();
        if (there.size() < 2) {
            return -2;
        }
        int[][] come = come(n, ties);
        int best = -1;
        for (int a : there) {
            for (int b : there) {
                if (a < b) {
                    int set = 1 << a | 1 << b;
                    int often = (int) Arrays.stream(come).filter(c -> (c[0] & set) == set).count();
                    if (often > best) {
                        best = often;
                        tell(a, b);
                    }
                }
            }
        }
        return best;
    }

    int lags(int n) {
        if (n < 1 || n > 60) {
            return -1;
        }
        if (land.there().isEmpty()) {
            return -2;
        }
        Ratio most = null;
        Ratio least = null;
        int who = -1;
        int behind = -1;
        Land l = land.copy();
        for (int k = 1; k <= n; k++) {
            l.step(ties, -1);
            for (int t : l.there()) {
                if (most == null || l.lag(t).compareTo(most) > 0) {
                    most = l.lag(t);
                    who = t;
                    behind = k;
                }
                if (least == null || l.lag(t).compareTo(least) < 0) {
                    least = l.lag(t);
                }
            }
        }
        tell(behind, most, least);
        return who;
    }

    int flow(int n) {
        if (n < 1 || n > 8) {
            return -1;
        }
        List<int[]> parts = new ArrayList<>();
        for (int t : land.there()) {
            Job j = land.jobs[t];
            for (int i = j.done + 1; j.deadline(i) <= land.slot + n; i++) {
                if (j.deadline(i) > land.slot) {
                    parts.add(new int[] {t, j.early ? 0 : j.release(i), j.deadline(i)});
                }
            }
        }
        int places = 1 + parts.size();
        int slots = places + 8 * n;
        int sink = slots + n;
        int[][] room = new int[sink + 1][sink + 1];
        for (int k = 0; k < parts.size(); k++) {
            room[0][1 + k] = 1;
            int[] part = parts.get(k);
            for (int s = 0; s < n; s++) {
                int slot = land.slot + s;
                if (slot >= part[1] && slot < part[2]) {
                    room[1 + k][places + part[0] * n + s] = 1;
                }
            }
        }
        for (int t = 0; t < 8; t++) {
            for (int s = 0; s < n; s++) {
                room[places + t * n + s][slots + s] = 1;
            }
        }
        for (int s = 0; s < n; s++) {
            room[slots + s][sink] = land.processors;
        }
        int flow = 0;
        while (push(room, 0, sink, new boolean[sink + 1])) {
            flow++;
        }
        tell(parts.size());
        return flow;
    }

    private static boolean push(int[][] room, int node, int sink, boolean[] been) {
        if (node == sink) {
            return true;
        }
        been[node] = true;
        for (int next = 0; next < room.length; next++) {
            if (!been[next] && room[node][next] > 0 && push(room, next, sink, been)) {
                room[node][next]--;
                room[next][node]++;
                return true;
            }
        }
        return false;
    }

    int waits(int task) {
        if (!land.has(task)) {
            return -1;
        }
        int most = -2;
        for (int w = 0; w <= 12; w++) {
            Land l = land.copy();
            for (int k = 0; k < 60; k++) {
                l.step(ties, k < w ? task : -1);
            }
            if (l.misses != land.misses) {
                break;
            }
            most = w;
        }
        return most;
    }

    int room() {
        Ratio left = new Ratio(land.processors, 1).minus(land.use());
        Ratio best = null;
        for (int p = 1; p <= 12; p++) {
            for (int e = 1; e <= p; e++) {
                Ratio w = new Ratio(e, p);
                if (w.compareTo(left) <= 0 && (best == null || w.compareTo(best) > 0)) {
                    best = w;
                }
            }
        }
        if (best == null || land.there().size() == 8) {
            return -2;
        }
        tell(best);
        return 0;
    }

    int fewest() {
        int n = 0;
        while (land.use().compareTo(new Ratio(n, 1)) > 0) {
            n++;
        }
        List<Ratio> weights = new ArrayList<>();
        for (int t : land.there()) {
            weights.add(land.jobs[t].weight());
        }
        weights.sort((a, b) -> b.compareTo(a));
        Ratio sum = new Ratio(0, 1);
        int k = 0;
        while (k < weights.size() && sum.compareTo(new Ratio(n - 1, 1)) <= 0) {
            sum = sum.plus(weights.get(k));
            k++;
        }
        tell(k);
        return n;
    }

    private static boolean mayBeHeard(int what, int v) {
        switch (what) {
            case 0:
            case 1: return v >= 1 && v <= 12;
            case 2:
            case 3: return v == 0 || v == 1;
            case 4: return v >= 0 && v <= 20;
            default: return false;
        }
    }

    private boolean isSo(int task, int what, int v) {
        Job j = land.jobs[task];
        switch (what) {
            case 0: return j.p == v;
            case 1: return j.e >= v;
            case 2: return land.ready(task) ? v == 1 : v == 0;
            case 3: return 2 * j.e >= j.p ? v == 1 : v == 0;
            default: return j.done >= v;
        }
    }

    int heard(int what, int v) {
        if (!mayBeHeard(what, v) || heard.size() == 12) {
            return -1;
        }
        heard.add(new int[] {what, v});
        return heard.size();
    }

    int forget() {
        int n = heard.size();
        heard.clear();
        return n;
    }

    private List<Integer> fitting() {
        List<Integer> fit = new ArrayList<>();
        for (int t : land.there()) {
            if (heard.stream().allMatch(h -> isSo(t, h[0], h[1]))) {
                fit.add(t);
            }
        }
        return fit;
    }

    int fits() {
        tell(fitting().size());
        return bits(fitting());
    }

    int asks() {
        List<Integer> fit = fitting();
        if (fit.isEmpty()) {
            return -2;
        }
        int best = -1;
        int bestLeft = 99;
        for (int code = 0; code < 500; code++) {
            int what = code / 100;
            int v = code % 100;
            if (mayBeHeard(what, v)) {
                int so = (int) fit.stream().filter(t -> isSo(t, what, v)).count();
                int left = Math.max(so, fit.size() - so);
                if (left < bestLeft) {
                    bestLeft = left;
                    best = code;
                }
            }
        }
        tell(bestLeft);
        return best;
    }

    int saw(int i, int r) {
        if (i < 1 || i > 12 || r < 0 || r > 150 || seen.size() == 10) {
            return -1;
        }
        seen.add(new int[] {i, r});
        return seen.size();
    }

    int denies() {
        int n = seen.size();
        seen.clear();
        return n;
    }

    private List<Job> fittingWeights() {
        List<Job> list = new ArrayList<>();
        for (int p = 1; p <= 12; p++) {
            for (int e = 1; e <= p; e++) {
                Job j = new Job();
                j.e = e;
                j.p = p;
                if (seen.stream().allMatch(s -> j.release(s[0]) == s[1])) {
                    list.add(j);
                }
            }
        }
        return list;
    }

    int weights() {
        List<Job> fit = fittingWeights();
        if (fit.isEmpty()) {
            tell();
        } else {
            tell(fit.get(0).p, fit.get(0).e);
        }
        return fit.size();
    }

    int looks() {
        List<Job> fit = fittingWeights();
        if (fit.isEmpty()) {
            return -2;
        }
        int best = -1;
        int bestLeft = 99;
        for (int i = 1; i <= 12; i++) {
            Map<Integer, Integer> groups = new HashMap<>();
            for (Job j : fit) {
                groups.merge(j.release(i), 1, Integer::sum);
            }
            int most = groups.values().stream().max(Integer::compare).get();
            if (most < bestLeft) {
                bestLeft = most;
                best = i;
            }
        }
        tell(bestLeft);
        return best;
    }

    int odds(int n, int k, int p) {
        if (n < 0 || n > 8 || k < 0 || k > 8 || p < 0 || p > 10) {
            return -1;
        }
        Ratio sum = new Ratio(0, 1);
        for (int lost = 0; lost < 1 << n; lost++) {
            int l = Integer.bitCount(lost);
            if (n - l >= k) {
                BigInteger ways = BigInteger.valueOf(p).pow(l).multiply(BigInteger.valueOf(10 - p).pow(n - l));
                sum = sum.plus(new Ratio(ways, BigInteger.TEN.pow(n)));
            }
        }
        tell(sum);
        return 0;
    }

    int divisors(int n) {
        if (n < 0 || n > 200) {
            return -1;
        }
        int[] least = new int[n + 1];
        for (int m = 1; m <= n; m++) {
            for (int d = m - 1; d >= 1; d--) {
                if (m % d == 0 && least[m - d] == 0) {
                    least[m] = d;
                }
            }
        }
        if (least[n] == 0) {
            tell();
            return 0;
        }
        tell(least[n]);
        return 1;
    }

    private static int has(int v, int own, int other) {
        return own + other <= v ? 3 * own : Math.floorDiv(3 * v * own, own + other) - other;
    }

    int rests(int v) {
        if (v < 0 || v > 18) {
            return -1;
        }
        tell();
        int n = 0;
        for (int x = 9; x >= 0; x--) {
            for (int y = 9; y >= 0; y--) {
                boolean rests = true;
                for (int z = 0; z <= 9; z++) {
                    rests &= has(v, z, y) <= has(v, x, y) && has(v, z, x) <= has(v, y, x);
                }
                if (rests) {
                    n++;
                    tell(x, y);
                }
            }
        }
        return n;
    }

    int law() {
        String t = taken();
        int bad = badTie(t);
        if (bad >= 0) {
            return -10000 - bad;
        }
        int[][] by = come(60, t);
        int[][] now = come(60, ties);
        int firstBy = firstMiss(by);
        int firstNow = firstMiss(now);
        tell(missesIn(by), missesIn(now), firstBy < 0 ? -1 : land.slot + firstBy,
            firstNow < 0 ? -1 : land.slot + firstNow);
        return missesIn(by) - missesIn(now);
    }

    int years(int seed, int n) {
        if (n < 1 || n > 60) {
            return -1;
        }
        Land l = land.copy();
        int[] r = {seed};
        for (int k = 0; k < n; k++) {
            int act = draw(r, 6);
            if (act <= 3) {
                l.step(ties, -1);
            } else if (act == 4) {
                l.hurry(draw(r, 8));
            } else {
                l.leave(draw(r, 8));
            }
        }
        tell(bits(l.there()), l.doneOfAll());
        return l.misses - land.misses;
    }

    private static int draw(int[] r, int n) {
        r[0] = r[0] * 1103515245 + 12345;
        return (int) ((r[0] & 0xffffffffL) / 65536 % n);
    }

    boolean keep(int i) {
        if (i < 0 || i > 1) {
            return false;
        }
        kept[i] = land.copy();
        return true;
    }

    boolean again(int i) {
        if (i < 0 || i > 1 || kept[i] == null) {
            return false;
        }
        land = kept[i].copy();
        past.clear();
        return true;
    }

    int count(int what) {
        switch (what) {
            case 0: return bits(land.there());
            case 1: return land.processors;
            case 2: return land.slot;
            case 3: return land.misses;
            case 4: return ties.length();
            case 5: return land.doneOfAll();
            case 6: return heard.size();
            case 7: return seen.size();
            case 8: return past.size();
            case 9: return row.size();
            case 10: return text.length();
            default: return -1;
        }
    }

    long row(int i) {
        if (i < 0 || i >= row.size()) {
            throw new NoSuchElementException();
        }
        return row.get(i);
    }
}
