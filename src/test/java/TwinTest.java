import java.lang.reflect.InvocationTargetException;
import java.util.ArrayList;
import java.util.Arrays;
import java.util.List;
import java.util.NoSuchElementException;
import java.util.Random;

/** Runs of drawn calls, each answered by FairSlots and by its Twin: all promises at once. */
public final class TwinTest {
    private static final int RUNS = 1500;
    private static final int CALLS = 512;
    private static final long THROWN = Long.MIN_VALUE;
    private static final String[] NAMES = {
        "joins", "joins", "joins", "ties", "ties", "task", "part", "part", "sheet", "slot", "slot",
        "slots", "slots", "processors", "leaves", "hurries", "shift", "shift", "undo", "lag", "use",
        "order", "behind", "ahead", "runs", "when", "misses", "round", "share", "pairs", "lags",
        "flow", "flow", "waits", "room", "fewest", "heard", "heard", "forget", "fits", "asks",
        "saw", "saw", "denies", "weights", "looks", "odds", "divisors", "rests", "law", "years",
        "keep", "again", "count", "row", "sign", "end"};

    private final Random draw;
    private final FairSlots x = new FairSlots();
    private final Twin twin = new Twin();
    private final List<String> told = new ArrayList<>();
    private boolean wrong;

    private TwinTest(long seed) {
        draw = new Random(seed);
    }

    public static void main(String[] args) {
        long first = args.length > 0 ? Long.parseLong(args[0]) : 1;
        int runs = args.length > 1 ? Integer.parseInt(args[1]) : RUNS;
        int failed = 0;
        for (long seed = first; seed < first + runs && failed < 3; seed++) {
            TwinTest test = new TwinTest(seed);
            if (!test.agrees()) {
                failed++;
                System.out.println("run " + seed + ":");
                for (String call : test.told) {
                    System.out.println("  " + call);
                }
            }
        }
        System.out.println("TwinTest: " + failed + " runs not as told twice");
        if (failed > 0) {
            System.exit(1);
        }
    }

    private boolean agrees() {
        int calls = draw.nextInt(3) == 0 ? CALLS : 120;
        for (int k = 0; k < calls && !wrong; k++) {
            String name = NAMES[draw.nextInt(NAMES.length)];
            int[] a = arguments(name);
            if ("joins ties shift law".contains(name) && draw.nextInt(12) != 0) {
                write(textFor(name));
            }
            call(name, a);
        }
        return !wrong;
    }

    private void write(String text) {
        call("end", new int[] {0});
        for (int at = 0; at < text.length(); at += 4) {
            int v = 0;
            for (int k = at; k < at + 4; k++) {
                v = v << 8 | (k < text.length() ? text.charAt(k) : 0);
            }
            call("sign", new int[] {v});
        }
        call("end", new int[] {text.length()});
    }

    private String textFor(String name) {
        String text = name.equals("joins") ? lines() : name.equals("shift") ? acts() : letters();
        if (draw.nextInt(6) == 0 && !text.isEmpty()) {
            int at = draw.nextInt(text.length());
            String signs = "0123456789/;e*nplhdbgwrx \u00e9";
            char c = signs.charAt(draw.nextInt(signs.length()));
            text = text.substring(0, at) + c + text.substring(at + draw.nextInt(2));
        }
        if (draw.nextInt(10) == 0 && !text.isEmpty()) {
            text = text.substring(0, draw.nextInt(text.length()));
        }
        return text.length() > 80 ? text.substring(0, 80) : text;
    }

    private String lines() {
        StringBuilder s = new StringBuilder();
        int n = draw.nextInt(15) == 0 ? 20 : 1 + draw.nextInt(4);
        for (int k = 0; k < n; k++) {
            int p = 1 + draw.nextInt(draw.nextInt(40) == 0 ? 14 : 12);
            int e = 1 + draw.nextInt(draw.nextInt(40) == 0 ? 15 : draw.nextInt(3) == 0 ? p : (p + 1) / 2);
            s.append(k == 0 ? "" : ";").append(e).append('/').append(p);
            s.append(draw.nextInt(4) == 0 ? "e" : "");
        }
        return s.toString();
    }

    private String acts() {
        StringBuilder s = new StringBuilder();
        int n = draw.nextInt(15) == 0 ? 30 : draw.nextInt(7);
        for (int k = 0; k < n; k++) {
            switch (draw.nextInt(6)) {
                case 0: s.append('n').append(draw.nextInt(7)).append(draw.nextInt(10)); break;
                case 1: s.append('p').append(draw.nextInt(6)); break;
                case 2: s.append('l').append(draw.nextInt(10)); break;
                case 3: s.append('h').append(draw.nextInt(8)); break;
                default: s.append('*');
            }
        }
        return s.toString();
    }

    private String letters() {
        List<Character> left = new ArrayList<>(List.of('d', 'b', 'g', 'w', 'r'));
        StringBuilder s = new StringBuilder();
        for (int n = draw.nextInt(6); n > 0; n--) {
            s.append(left.remove(draw.nextInt(left.size())));
        }
        return s.toString();
    }

    /** From low to high most often; at times beside it or anything. */
    private int near(int low, int high) {
        int kind = draw.nextInt(40);
        if (kind == 0) {
            return draw.nextInt();
        }
        if (kind == 1) {
            return low - 1;
        }
        if (kind == 2) {
            return high + 1;
        }
        if (kind == 3) {
            return draw.nextBoolean() ? low : high;
        }
        return low + draw.nextInt(high - low + 1);
    }

    private int[] arguments(String name) {
        switch (name) {
            case "sign": return new int[] {draw.nextInt()};
            case "end": return new int[] {near(0, twin.text.length())};
            case "task": return new int[] {near(0, 7), near(0, 4)};
            case "part": return new int[] {near(0, 7), near(1, draw.nextBoolean() ? 20 : 200), near(0, 4)};
            case "sheet": return new int[] {near(0, 3), near(0, 8),
                draw.nextBoolean() ? draw.nextInt() : near(-3, 300), draw.nextBoolean() ? draw.nextInt() : near(-3, 100)};
            case "slots": case "share": case "pairs": case "lags": return slotArguments(name);
            case "processors": return new int[] {near(1, 4)};
            case "leaves": case "hurries": case "lag": case "ahead": case "waits": return new int[] {near(0, 7)};
            case "runs": return new int[] {near(0, draw.nextBoolean() ? 9 : 99)};
            case "when": return new int[] {near(0, 7), near(1, draw.nextBoolean() ? 9 : 60)};
            case "flow": return new int[] {near(1, 8)};
            case "heard": return hearsay();
            case "saw": return sighting();
            case "odds": return new int[] {near(0, 8), near(0, 8), near(0, 10)};
            case "divisors": return new int[] {near(0, 200)};
            case "rests": return new int[] {near(0, 18)};
            case "years": return new int[] {draw.nextInt(), near(1, 60)};
            case "keep": case "again": return new int[] {near(0, 1)};
            case "count": return new int[] {near(0, 10)};
            case "row": return new int[] {near(0, 4)};
            default: return new int[0];
        }
    }

    private int[] slotArguments(String name) {
        int n = near(name.equals("slots") ? 0 : 1, draw.nextBoolean() ? 8 : 60);
        return name.equals("share") ? new int[] {near(0, 7), n} : new int[] {n};
    }

    private int[] hearsay() {
        int what = near(0, 4);
        return new int[] {what, what <= 1 ? near(1, 12) : what <= 3 ? near(0, 1) : near(0, 20)};
    }

    private int[] sighting() {
        int i = near(1, 12);
        if (i >= 1 && i <= 12 && draw.nextInt(4) != 0) {
            int p = 1 + draw.nextInt(12);
            int e = 1 + draw.nextInt(p);
            return new int[] {i, (i - 1) * p / e};
        }
        return new int[] {i, near(0, 150)};
    }

    private void call(String name, int[] a) {
        long due = answer(twin, name, a);
        long got = answer(x, name, a);
        String is = got == THROWN ? "throws" : String.valueOf(got);
        told.add(name + Arrays.toString(a) + " = " + is);
        if (got != due) {
            wrong = true;
            told.add("  due is " + (due == THROWN ? "throws" : String.valueOf(due)));
        }
        compareAll();
    }

    private void compareAll() {
        for (int what = 0; what <= 10; what++) {
            if (x.count(what) != twin.count(what)) {
                wrong = true;
                told.add("  count(" + what + ") = " + x.count(what) + ", due is " + twin.count(what));
            }
        }
        for (int i = 0; i < x.count(9) && i < twin.count(9); i++) {
            if (x.row(i) != twin.row(i)) {
                wrong = true;
                told.add("  row(" + i + ") = " + x.row(i) + ", due is " + twin.row(i));
            }
        }
    }

    /** What the method of this name answers; a boolean counts 1 or 0. */
    private static long answer(Object of, String name, int[] a) {
        Class<?>[] types = new Class<?>[a.length];
        Arrays.fill(types, int.class);
        Object[] values = Arrays.stream(a).boxed().toArray();
        try {
            Object answer = of.getClass().getDeclaredMethod(name, types).invoke(of, values);
            return answer instanceof Boolean b ? (b ? 1 : 0) : ((Number) answer).longValue();
        } catch (InvocationTargetException e) {
            if (e.getCause() instanceof NoSuchElementException) {
                return THROWN;
            }
            throw new IllegalStateException(name + Arrays.toString(a), e.getCause());
        } catch (ReflectiveOperationException e) {
            throw new IllegalArgumentException(name, e);
        }
    }
}
