/** The boundary cases that promises 43 to 48 name, one test a sentence, which stands ahead of it. */
public final class EdgeWorkTest {
    private static final int[] FAR = {Integer.MIN_VALUE, Integer.MAX_VALUE};

    public static void main(String[] args) {
        lawOfTheNext60();
        lawLessByTies();
        lawOfTheFirstOne();
        lawOfNothing();
        lawThatCannotStand();
        yearsFromOneTo60();
        yearsOfAnotherN();
        yearsOfSlots();
        yearsOfEarlyOnes();
        yearsOfThoseThatLeave();
        yearsOfMisses();
        yearsOfNoTask();
        yearsWithoutSign();
        keepUnderNoneAndOne();
        keepAnew();
        keepWhatUndoBringsBack();
        keepOfOthers();
        againAsItWasKept();
        againMoreThanOnce();
        againOfNothingKept();
        countOfEach();
        countOfAnotherWhat();
        rowOfEachNumber();
        rowOfNoneSuch();
        Check.finish("EdgeWorkTest");
    }

    private static void law(FairSlots x, String ties, int answer, long... row) {
        String what = "law() of " + ties + " in SLOT " + x.count(2);
        int letters = x.count(4);
        Check.due(what, Check.law(x, ties), answer);
        Check.row(what, x, row);
        Check.due("TIES behind " + what, x.count(4), letters);
        Check.due("signs behind " + what, x.count(10), 0);
    }

    /** Promise 43: MISSES of the next 60 SLOTS by them. */
    private static void lawOfTheNext60() {
        // By none of the letters TASK 1 misses in SLOT 111, by d it does not.
        FairSlots x = Alike.held(8, 13, 38);
        law(x, "d", 0, 0, 0, -1, -1);
        law(x, "", 0, 0, 0, -1, -1);
        x = Alike.held(8, 13, 39);
        law(x, "d", -1, 0, 1, -1, 111);
        law(x, "", 0, 1, 1, 111, 111);
        x = Alike.held(8, 13, 98);
        law(x, "", 0, 1, 1, 111, 111);
        law(x, "d", -1, 0, 1, -1, 111);
        x = Alike.held(8, 13, 99);
        law(x, "", 0, 0, 0, -1, -1);
    }

    /** .. less by TIES (below 0, too). */
    private static void lawLessByTies() {
        FairSlots x = Alike.held(6, 0, 0);
        law(x, "dbg", -1, 0, 1, -1, 5);
        Check.ties(x, "dbg");
        law(x, "", 1, 1, 0, 5, -1);
        law(x, "dbg", 0, 0, 0, -1, -1);
        // What went by does not count.
        x = Check.made(2, "2/3;2/3;2/3");
        Check.ties(x, "");
        law(x, "dbg", -2, 0, 2, -1, 1);
        x.slots(2);
        Check.due("MISSES", x.count(3), 1);
        law(x, "", 0, 1, 1, 2, 2);
    }

    /** .. then the SLOT of the first one by them, by TIES (NONE: none). */
    private static void lawOfTheFirstOne() {
        FairSlots x = Check.made(1, "1/12e;1/4;1/3;1/5");
        Check.ties(x, "");
        law(x, "w", -3, 0, 3, -1, 2);
        x.slots(3);
        law(x, "", 0, 2, 2, 3, 3);
        x.slots(1);
        law(x, "", 0, 1, 1, 4, 4);
        x.slots(1);
        law(x, "", 0, 0, 0, -1, -1);
    }

    /** THE TEXT is other TIES (an empty one: none of the letters). */
    private static void lawOfNothing() {
        law(new FairSlots(), "", 0, 0, 0, -1, -1);
        law(new FairSlots(), "dbgwr", 0, 0, 0, -1, -1);
        law(Alike.held(2, 0, 0), "", 0, 1, 1, 1, 1);
        FairSlots x = Alike.held(2, 0, 0);
        Check.ties(x, "w");
        law(x, "", 1, 1, 0, 1, -1);
    }

    /** -10000 - p: the sign at p can't stand there (as ties()). */
    private static void lawThatCannotStand() {
        String[] texts = {"x", "dx", "dd", "dbgwrx", "dbgwrd", "\u00e9", "dbgD"};
        int[] places = {0, 1, 1, 5, 5, 0, 3};
        for (int k = 0; k < texts.length; k++) {
            String text = texts[k];
            Alike.refused("law() of " + text, Alike::rich, x -> Check.law(x, text), -10000 - places[k]);
        }
    }

    /** R = R times 1103515245 + 12345; (R without sign, by 65536) % n: R of the k-th DRAW, from 1 on. */
    private static long drawn(int seed, int k) {
        long r = seed & 0xffffffffL;
        for (int i = 0; i < k; i++) {
            r = (r * 1103515245L + 12345L) % 4294967296L;
        }
        return r / 65536;
    }

    /** A seed by which these come: 0 .. 3 a SLOT, 4 or 5 and the TASK behind it. */
    private static int seedOf(int... draws) {
        for (int seed = 0; seed < 100000000; seed++) {
            if (tells(seed, draws)) {
                return seed;
            }
        }
        throw new IllegalStateException("no such seed");
    }

    private static boolean tells(int seed, int[] draws) {
        boolean ofTask = false;
        for (int k = 0; k < draws.length; k++) {
            if (drawn(seed, k + 1) % (ofTask ? 8 : 6) != draws[k]) {
                return false;
            }
            ofTask = !ofTask && draws[k] >= 4;
        }
        return true;
    }

    private static void years(FairSlots x, int seed, int n, int misses, long tasks, long done) {
        String what = "years(" + seed + ", " + n + ")";
        Check.due(what, x.years(seed, n), misses);
        Check.row(what, x, tasks, done);
    }

    /** Promise 44: n times (1 .. 60). */
    private static void yearsFromOneTo60() {
        for (int n : new int[] {1, 2, 59, 60}) {
            for (int seed : new int[] {0, 1, -1, 2147483647, -2147483648, 12345}) {
                // TASK 0 is run in each SLOT and is there, till it leaves, which it always may.
                int done = 0;
                int k = 0;
                boolean there = true;
                for (int i = 0; i < n; i++) {
                    int act = (int) (drawn(seed, ++k) % 6);
                    if (act < 4) {
                        done++;
                    } else if (drawn(seed, ++k) % 8 == 0 && act == 5) {
                        there = false;
                    }
                }
                years(Check.made(1, "1/1"), seed, n, 0, there ? 1 : 0, there ? done : 0);
            }
        }
    }

    /** NONE: another n. */
    private static void yearsOfAnotherN() {
        for (int n : new int[] {0, 61, -1, FAR[0], FAR[1]}) {
            Alike.refused("years(1, " + n + ")", Alike::rich, x -> x.years(1, n), -1);
        }
    }

    /** 0, 1, 2, 3: a SLOT. */
    private static void yearsOfSlots() {
        for (int draw = 0; draw <= 3; draw++) {
            years(Check.made(1, "1/2;1/3"), seedOf(draw), 1, 0, 3, 1);
        }
        years(Check.made(1, "1/2;1/3"), seedOf(3, 0, 2, 1), 3, 0, 3, 3);
        years(Check.made(1, "1/2;1/3"), seedOf(3, 0, 2, 1), 4, 0, 3, 4);
        // The SLOTS are those behind this one.
        FairSlots x = Check.made(1, "1/2");
        x.slot();
        years(x, seedOf(0), 1, 0, 1, 1);
        years(x, seedOf(0, 0), 2, 0, 1, 2);
    }

    /** 4: a DRAW of 8 a TASK, if it is there: it is EARLY, or no more. */
    private static void yearsOfEarlyOnes() {
        years(Check.made(1, "1/4"), seedOf(0, 0), 2, 0, 1, 1);
        years(Check.made(1, "1/4"), seedOf(4, 0, 0, 0), 3, 0, 1, 2);
        years(Check.made(1, "1/4"), seedOf(4, 0, 0, 0), 2, 0, 1, 1);
        years(Check.made(1, "1/4"), seedOf(4, 0, 4, 0, 0, 0), 4, 0, 1, 1);
        years(Check.made(1, "1/4e"), seedOf(4, 0, 0, 0), 3, 0, 1, 1);
        // Of one that is not there nothing is done, but it was one of the n times.
        years(Check.made(1, "1/4"), seedOf(4, 1, 0, 0), 3, 0, 1, 1);
        years(Check.made(1, "1/4"), seedOf(4, 7), 1, 0, 1, 0);
        // TASK 7 of eight.
        FairSlots x = Check.made(2, "1/12;1/12;1/12;1/12;1/12;1/12;1/12;1/1");
        years(x, seedOf(4, 7), 1, 0, 255, 0);
        Check.due("questions change nothing", x.task(7, 3), 0);
    }

    /** 5: a DRAW of 8 a TASK: it leaves, if it may. */
    private static void yearsOfThoseThatLeave() {
        years(Check.made(1, "1/2;1/3"), seedOf(5, 0), 1, 0, 2, 0);
        years(Check.made(1, "1/2;1/3"), seedOf(5, 1), 1, 0, 1, 0);
        // One that is not there.
        years(Check.made(1, "1/2;1/3"), seedOf(5, 2), 1, 0, 3, 0);
        years(Check.made(1, "1/2;1/3"), seedOf(5, 7), 1, 0, 3, 0);
        // It left, and comes once more.
        years(Check.made(1, "1/2;1/3"), seedOf(5, 1, 5, 1), 2, 0, 1, 0);
        years(Check.made(1, "1/2;1/3"), seedOf(5, 1, 4, 1), 2, 0, 1, 0);
        // 0 was run in SLOT 0: it may not in 1, but in 2.
        years(Check.made(1, "1/2"), seedOf(0, 5, 0), 2, 0, 1, 1);
        years(Check.made(1, "1/2"), seedOf(0, 0, 5, 0), 3, 0, 0, 0);
        // DONE of those alone that are there then.
        years(Check.made(1, "1/2;1/3"), seedOf(0, 0, 5, 0), 3, 0, 2, 1);
        FairSlots x = Check.made(1, "1/12;1/12;1/12;1/12;1/12;1/12;1/12;1/12");
        years(x, seedOf(5, 7), 1, 0, 127, 0);
        Check.due("questions change nothing", x.count(0), 255);
    }

    /** MISSES more in these. */
    private static void yearsOfMisses() {
        FairSlots x = Alike.held(2, 0, 0);
        years(x, seedOf(0), 1, 0, 3, 1);
        years(x, seedOf(0, 0), 2, 1, 3, 2);
        years(x, seedOf(0, 0, 0), 3, 1, 3, 3);
        x.slot();
        years(x, seedOf(0), 1, 1, 3, 2);
        x.slot();
        Check.due("MISSES", x.count(3), 1);
        years(x, seedOf(0), 1, 0, 3, 3);
        // 0 is EARLY no more: TASK 1 is run ahead of its DEADLINE.
        years(Alike.held(2, 0, 1), seedOf(4, 0, 0), 2, 0, 3, 2);
        years(Alike.held(2, 0, 1), seedOf(5, 1, 0), 2, 0, 1, 2);
    }

    private static void yearsOfNoTask() {
        years(new FairSlots(), 0, 60, 0, 0, 0);
        years(new FairSlots(), -1, 1, 0, 0, 0);
        years(new FairSlots(), seedOf(5, 0), 1, 0, 0, 0);
        years(new FairSlots(), seedOf(4, 0), 1, 0, 0, 0);
    }

    /** (R without sign, by 65536) % n. */
    private static void yearsWithoutSign() {
        int below = 0;
        for (int seed = 0; seed < 400; seed++) {
            long act = drawn(seed, 1) % 6;
            below += seed * 1103515245 + 12345 < 0 ? 1 : 0;
            int done = act < 4 ? 1 : 0;
            boolean left = act == 5 && drawn(seed, 2) % 8 == 0;
            years(Check.made(1, "1/1"), seed, 1, 0, left ? 0 : 1, done);
        }
        Check.due("R is below 0 in many", below > 100, true);
    }

    /** Promise 45: What undo() brings back is kept under a number 0 .. 1: true. */
    private static void keepUnderNoneAndOne() {
        FairSlots x = Check.made(1, "1/2");
        Check.due("keep(0)", x.keep(0), true);
        Check.due("again(1), nothing kept", x.again(1), false);
        x.slots(3);
        Check.due("keep(1)", x.keep(1), true);
        x.slots(3);
        Check.due("again(0)", x.again(0), true);
        Check.due("SLOT", x.count(2), 0);
        Check.due("again(1)", x.again(1), true);
        Check.due("SLOT", x.count(2), 3);
        Check.due("DONE", x.count(5), 2);
        // Of nothing, too.
        x = new FairSlots();
        x.keep(1);
        x.slots(9);
        Check.joins(x, "1/2");
        Check.due("again(1)", x.again(1), true);
        Check.due("SLOT", x.count(2), 0);
        Check.due("TASKS", x.count(0), 0);
    }

    private static void keepAnew() {
        FairSlots x = new FairSlots();
        for (int k = 1; k <= 5; k++) {
            x.slots(k);
            Check.due("keep(0)", x.keep(0), true);
        }
        x.slots(60);
        x.again(0);
        Check.due("SLOT that was kept last", x.count(2), 15);
    }

    /** .. TASKS, PROCESSORS, SLOT, MISSES, but no TIES, nothing that was heard or seen, no undo(). */
    private static void keepWhatUndoBringsBack() {
        Alike.same("keep() and again()", Alike::rich, x -> {
            x.keep(1);
            Check.shift(x, "n40h0h1h2l4p3*");
            x.sheet(2, 8, 1, 0);
            Check.joins(x, "1/12");
            return x.again(1) ? 1 : 0;
        }, x -> {
            x.keep(1);
            return x.again(1) ? 1 : 0;
        });
        FairSlots x = Alike.rich();
        x.keep(1);
        Check.ties(x, "w");
        x.forget();
        x.denies();
        Check.write(x, "d");
        x.again(1);
        Check.due("TIES", x.count(4), 1);
        Check.due("heard", x.count(6), 0);
        Check.due("seen", x.count(7), 0);
        Check.due("signs", x.count(10), 1);
        Check.due("what can be undone", x.count(8), 0);
        Check.due("MISSES", x.count(3), 2);
    }

    /** Refused: others. */
    private static void keepOfOthers() {
        for (int i : new int[] {-1, 2, FAR[0], FAR[1]}) {
            Alike.refused("keep(" + i + ")", Alike::rich, x -> x.keep(i) ? 1 : 0, 0);
            Alike.refused("again(" + i + ")", Alike::rich, x -> x.again(i) ? 1 : 0, 0);
        }
    }

    /** Promise 46: It is as it was kept under a number. */
    private static void againAsItWasKept() {
        FairSlots x = Alike.rich();
        Check.due("again(0)", x.again(0), true);
        int[] due = {7, 2, 3, 2};
        for (int what = 0; what < due.length; what++) {
            Check.due("count(" + what + ")", x.count(what), due[what]);
        }
        Check.due("DONE of all", x.count(5), 5);
        Check.due("EARLY of 2", x.task(2, 3), 0);
        Check.noTask("TASK 3 came later", x, 3, 0);
        Check.due("TIES are those of now", x.count(4), 5);
        // Next PARTS are as they were: 0, 1 and 2 have PART 3 and 2.
        Check.due("slot()", x.slot(), 5);
    }

    private static void againMoreThanOnce() {
        FairSlots x = Check.made(1, "1/2");
        x.keep(0);
        for (int k = 0; k < 4; k++) {
            x.slots(5);
            Check.due("again(0)", x.again(0), true);
            Check.due("SLOT", x.count(2), 0);
            Check.due("what can be undone", x.count(8), 0);
        }
        x.slot();
        x.undo();
        Check.due("again(0) behind undo()", x.again(0), true);
    }

    /** Refused: nothing kept. */
    private static void againOfNothingKept() {
        Alike.refused("again(0) of a new object", FairSlots::new, x -> x.again(0) ? 1 : 0, 0);
        Alike.refused("again(1) of a new object", FairSlots::new, x -> x.again(1) ? 1 : 0, 0);
        Alike.refused("again(1), kept under 0 alone", Alike::rich, x -> x.again(1) ? 1 : 0, 0);
    }

    /** Promise 47: What 0: TASKS (bits), .. 10: signs of THE TEXT. */
    private static void countOfEach() {
        FairSlots x = Alike.rich();
        x.sign(0);
        x.end(3);
        int[] due = {31, 4, 5, 2, 5, 13, 2, 1, 7, 5, 3};
        for (int what = 0; what <= 10; what++) {
            Check.due("count(" + what + ")", x.count(what), due[what]);
        }
        // DONE of TASK 7, too; of one that left no more.
        x = Check.made(1, "1/12;1/12;1/12;1/12;1/12;1/12;1/12;1/12");
        for (int done = 0; done <= 8; done++) {
            Check.due("DONE of all", x.count(5), done);
            x.slot();
        }
        x.slots(3);
        x.leaves(7);
        Check.due("DONE of all but one", x.count(5), 7);
        Check.due("TASKS", x.count(0), 127);
    }

    /** NONE for another what. */
    private static void countOfAnotherWhat() {
        for (int what : new int[] {-1, 11, 12, FAR[0], FAR[1]}) {
            Alike.refused("count(" + what + ")", Alike::rich, x -> x.count(what), -1);
        }
    }

    /** Promise 48: Number i of the ROW. */
    private static void rowOfEachNumber() {
        FairSlots x = Check.made(1, "1/12");
        x.lags(11);
        long[] due = {11, -1, 12, -11, 12};
        for (int i = 0; i < due.length; i++) {
            Check.due("row(" + i + ")", x.row(i), due[i]);
        }
        x = Check.made(1, "1/12;1/12;1/12;1/12;1/12;1/12;1/12;1/12");
        x.order();
        for (int i = 0; i < 8; i++) {
            Check.due("row(" + i + ") of eight", x.row(i), i);
        }
        Check.noNumber("row(8) of eight", x, 8);
    }

    /** NoSuchElementException: none such. */
    private static void rowOfNoneSuch() {
        FairSlots x = new FairSlots();
        for (int i : new int[] {0, -1, 1, FAR[0], FAR[1]}) {
            Check.noNumber("row(" + i + ") of a new object", x, i);
        }
        x.use();
        Check.due("row(3) of four", x.row(3), 1);
        for (int i : new int[] {-1, 4, 5, 8, 80, FAR[0], FAR[1]}) {
            Check.noNumber("row(" + i + ") of four", x, i);
        }
        x.fits();
        Check.noNumber("row(1) of one, four ahead of it", x, 1);
        x.order();
        Check.noNumber("row(0) of none, one ahead of it", x, 0);
    }
}
