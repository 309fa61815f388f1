import java.util.NoSuchElementException;

/** What the tests share: calls that are compared, texts that are written, the end of a test. */
final class Check {
    private static int right = 0;
    private static int wrong = 0;

    private Check() {
    }

    static void due(String what, long got, long want) {
        if (got == want) {
            right++;
        } else {
            wrong++;
            System.out.println(what + " answered " + got + ", due is " + want);
        }
    }

    static void due(String what, boolean got, boolean want) {
        due(what, got ? 1 : 0, want ? 1 : 0);
    }

    static void same(String what, String got, String want) {
        if (got.equals(want)) {
            right++;
        } else {
            wrong++;
            System.out.println(what + " is\n" + got + "\ndue is\n" + want);
        }
    }

    /** The ROW has these numbers and no other. */
    static void row(String what, FairSlots x, long... want) {
        due(what + ", numbers of the ROW", x.count(9), want.length);
        for (int i = 0; i < want.length && i < x.count(9); i++) {
            due(what + ", row(" + i + ")", x.row(i), want[i]);
        }
    }

    static void noTask(String what, FairSlots x, int task, int kind) {
        boolean thrown = false;
        try {
            x.task(task, kind);
        } catch (NoSuchElementException e) {
            thrown = true;
        }
        due(what + " throws", thrown, true);
    }

    static void noPart(String what, FairSlots x, int task, int i, int kind) {
        boolean thrown = false;
        try {
            x.part(task, i, kind);
        } catch (NoSuchElementException e) {
            thrown = true;
        }
        due(what + " throws", thrown, true);
    }

    static void noNumber(String what, FairSlots x, int i) {
        boolean thrown = false;
        try {
            x.row(i);
        } catch (NoSuchElementException e) {
            thrown = true;
        }
        due(what + " throws", thrown, true);
    }

    /** THE TEXT, which is empty, becomes this one. */
    static void write(FairSlots x, String text) {
        for (int at = 0; at < text.length(); at += 4) {
            int v = 0;
            for (int k = at; k < at + 4; k++) {
                v = v << 8 | (k < text.length() ? text.charAt(k) & 255 : 0);
            }
            x.sign(v);
        }
        x.end(text.length());
    }

    static int joins(FairSlots x, String text) {
        write(x, text);
        return x.joins();
    }

    static int ties(FairSlots x, String text) {
        write(x, text);
        return x.ties();
    }

    static int shift(FairSlots x, String text) {
        write(x, text);
        return x.shift();
    }

    static int law(FairSlots x, String text) {
        write(x, text);
        return x.law();
    }

    /** A new object with so many PROCESSORS and these TASKS. */
    static FairSlots made(int processors, String lines) {
        FairSlots x = new FairSlots();
        if (processors != 1) {
            x.processors(processors);
        }
        int joined = joins(x, lines);
        if (joined < 0) {
            due("joins() of " + lines, joined, 0);
        }
        return x;
    }

    static void finish(String name) {
        System.out.println(name + ": " + right + " answers as due, " + wrong + " not");
        if (wrong != 0) {
            System.exit(1);
        }
    }
}
