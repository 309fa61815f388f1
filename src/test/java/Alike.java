import java.util.NoSuchElementException;

/**
 * Objects that are made alike, of which some had a call more: what they tell of themselves afterwards
 * shows what the call changed.
 */
final class Alike {
    static final long THROWN = Long.MIN_VALUE;

    interface Maker {
        FairSlots made();
    }

    interface Call {
        long on(FairSlots x);
    }

    private Alike() {
    }

    /** The call answers so and leaves all as it was, the ROW too. */
    static void refused(String what, Maker maker, Call call, long answer) {
        Check.due(what, answerOf(call, maker.made()), answer);
        Check.same(what + ", what it leaves", told(maker, call, true), told(maker, x -> 0, true));
    }

    /** The call leaves all but the ROW as it was. */
    static void question(String what, Maker maker, Call call) {
        Check.same(what + ", what it leaves", told(maker, call, false), told(maker, x -> 0, false));
    }

    /** Both calls leave the same but for the ROW. */
    static void same(String what, Maker maker, Call call, Call other) {
        Check.same(what + ", what it leaves", told(maker, call, false), told(maker, other, false));
    }

    static long answerOf(Call call, FairSlots x) {
        try {
            return call.on(x);
        } catch (NoSuchElementException e) {
            return THROWN;
        }
    }

    /** Each part of this does things to an object of its own. */
    private static String told(Maker maker, Call call, boolean withRow) {
        StringBuilder s = new StringBuilder();
        present(s, behind(maker, call), withRow);
        past(s, behind(maker, call));
        kept(s, behind(maker, call));
        return s.toString();
    }

    private static FairSlots behind(Maker maker, Call call) {
        FairSlots x = maker.made();
        answerOf(call, x);
        return x;
    }

    private static void present(StringBuilder s, FairSlots x, boolean withRow) {
        if (withRow) {
            s.append("ROW").append(rowOf(x));
        }
        s.append(" can be undone ").append(x.count(8)).append(" signs ").append(x.count(10));
        world(s, x);
        s.append(" TIES ").append(x.count(4)).append(" heard ").append(x.count(6)).append(' ').append(x.fits());
        s.append(" seen ").append(x.count(7)).append(' ').append(x.weights()).append(rowOf(x));
        for (int k = 0; k < 24; k++) {
            s.append(" order ").append(x.order()).append(rowOf(x));
            s.append(" slot ").append(x.slot()).append(rowOf(x));
        }
    }

    private static void past(StringBuilder s, FairSlots x) {
        for (int k = 0; k < 13; k++) {
            s.append("\nundo ").append(x.undo());
            world(s, x);
        }
    }

    private static void kept(StringBuilder s, FairSlots x) {
        for (int i = 0; i < 2; i++) {
            s.append("\nagain ").append(x.again(i));
            world(s, x);
        }
    }

    private static void world(StringBuilder s, FairSlots x) {
        for (int what : new int[] {0, 1, 2, 3, 5}) {
            s.append(' ').append(x.count(what));
        }
        for (int task = 0; task < 8; task++) {
            if ((x.count(0) >> task & 1) != 0) {
                s.append(" TASK");
                for (int what = 0; what < 5; what++) {
                    s.append(' ').append(x.task(task, what));
                }
            }
        }
    }

    static String rowOf(FairSlots x) {
        StringBuilder s = new StringBuilder();
        for (int i = 0; i < x.count(9); i++) {
            s.append(' ').append(x.row(i));
        }
        return s.append(';').toString();
    }

    /**
     * One in which all is set: five TASKS of which one is EARLY, 0 behind the others, MISSES, TIES, what
     * was heard, seen and kept, acts that can be undone, a ROW of five numbers.
     */
    static FairSlots rich() {
        FairSlots x = Check.made(2, "2/3;2/3;2/3");
        Check.ties(x, "");
        x.slots(3);
        x.keep(0);
        x.processors(4);
        Check.joins(x, "7/12e;1/12");
        Check.ties(x, "gdbwr");
        x.heard(1, 2);
        x.heard(2, 1);
        x.saw(2, 1);
        x.slot();
        Check.shift(x, "h2*h2");
        x.lags(9);
        return x;
    }

    /**
     * TASK 0 has the one PROCESSOR in every SLOT. Of TASK 1, 1 by p, so many PARTS were run ahead, so that
     * it misses in SLOT p (ahead and 1) less 1 and in no other one. It is SLOT ahead and idle.
     */
    static FairSlots held(int p, int ahead, int idle) {
        FairSlots x = Check.made(2, "1/12e;1/" + p + "e");
        Check.ties(x, "");
        x.slots(ahead);
        x.hurries(1);
        x.processors(1);
        for (int k = 0; k < idle; k++) {
            x.slot();
        }
        return x;
    }
}
