/** The boundary cases that promises 21 to 27 name, one test a sentence, which stands ahead of it. */
public final class EdgeComeTest {
    private static final int[] FAR = {Integer.MIN_VALUE, Integer.MAX_VALUE};

    public static void main(String[] args) {
        runsFromThisSlotTo99();
        runsOfAnotherN();
        runsTellsMissesOfItself();
        whenInTheNext99();
        whenInTimeOrTooLate();
        whenItWasRun();
        whenOfOthers();
        missesInTheNext99();
        missesOfAllThatMiss();
        missesOfNone();
        roundBehindOneTo99();
        roundOfNone();
        roundWithoutTask();
        shareFromOneTo60();
        shareOneBehindTheOther();
        shareOfOthers();
        pairsFromOneTo60();
        pairsOfAsMany();
        pairsWithoutTwo();
        pairsOfAnotherN();
        lagsFromOneTo60();
        lagsOfAsGreat();
        lagsOfThoseThatAreThere();
        lagsWithoutTask();
        lagsOfAnotherN();
        Check.finish("EdgeComeTest");
    }

    /** Promise 21: the SLOT that is n (0 .. 99) behind this one. */
    private static void runsFromThisSlotTo99() {
        FairSlots x = Check.made(1, "1/11");
        for (int n = 0; n <= 99; n++) {
            Check.due("runs(" + n + ")", x.runs(n), n % 11 == 0 ? 1 : 0);
            Check.row("runs(" + n + ")", x, 0);
        }
        x.slot();
        Check.due("runs(0) in SLOT 1", x.runs(0), 0);
        Check.due("runs(10) in SLOT 1", x.runs(10), 1);
        Check.due("runs(98) in SLOT 1", x.runs(98), 1);
        Check.due("runs(99) in SLOT 1", x.runs(99), 0);
        Check.due("runs(99) without TASKS", new FairSlots().runs(99), 0);
        x = Check.made(4, "1/12;1/12;1/12;1/12;1/12;1/12;1/12;1/12");
        Check.due("four of eight", x.runs(0), 15);
        Check.due("the other four", x.runs(1), 240);
    }

    /** NONE: another n. */
    private static void runsOfAnotherN() {
        for (int n : new int[] {-1, 100, -99, FAR[0], FAR[1]}) {
            Alike.refused("runs(" + n + ")", Alike::rich, x -> x.runs(n), -1);
        }
    }

    /** The ROW: MISSES of all SLOTS ahead of it and of itself. */
    private static void runsTellsMissesOfItself() {
        // TASK 1 misses in SLOT 5.
        FairSlots x = Alike.held(6, 0, 0);
        int[] due = {0, 0, 0, 0, 0, 1, 1, 1};
        for (int n = 0; n < due.length; n++) {
            Check.due("runs(" + n + ")", x.runs(n), 1);
            Check.row("runs(" + n + ")", x, due[n]);
        }
        x.slots(5);
        x.runs(0);
        Check.row("runs(0) in SLOT 5", x, 1);
        x.slot();
        x.runs(99);
        Check.row("runs(99) in SLOT 6", x, 0);
        // In SLOT 13 it is 111 in which it misses; of 1 by 12 in SLOT 8 it is 107.
        x = Alike.held(8, 13, 0);
        x.runs(97);
        Check.row("runs(97), a MISS behind it", x, 0);
        x.runs(98);
        Check.row("runs(98), a MISS in it", x, 1);
        x = Alike.held(12, 8, 0);
        x.runs(98);
        Check.row("runs(98), a MISS in 99", x, 0);
        x.runs(99);
        Check.row("runs(99), a MISS in 99", x, 1);
    }

    /** Promise 22: .. if that is one of the next 99: it. -2: in none of these. */
    private static void whenInTheNext99() {
        // PART i of 4 by 7 is run in its RELEASE: 57 in 98, 58 in 99.
        FairSlots x = Check.made(1, "4/7");
        Check.due("PART 1", x.when(0, 1), 0);
        Check.row("PART 1", x, 2);
        Check.due("PART 57", x.when(0, 57), 98);
        Check.row("PART 57", x, 2);
        Alike.refused("PART 58", () -> Check.made(1, "4/7"), y -> y.when(0, 58), -2);
        Alike.refused("PART 60", () -> Check.made(1, "4/7"), y -> y.when(0, 60), -2);
        x.slot();
        Check.due("PART 58 from SLOT 1 on", x.when(0, 58), 99);
        Check.row("PART 58 from SLOT 1 on", x, 3);
        Check.due("PART 59 from SLOT 1 on", x.when(0, 59), -2);
        x.slot();
        Check.due("PART 59 from SLOT 2 on", x.when(0, 59), -2);
        x.slot();
        Check.due("PART 59 from SLOT 3 on", x.when(0, 59), 101);
        x = Check.made(1, "1/1");
        Check.due("PART 60 of 1/1", x.when(0, 60), 59);
        Check.row("PART 60 of 1/1", x, 1);
        Alike.refused("one that is never run", () -> Alike.held(2, 0, 0), y -> y.when(1, 1), -2);
    }

    /** .. how many SLOTS ahead of its DEADLINE that is (1: in the last one that is in time; 0 or less: too late). */
    private static void whenInTimeOrTooLate() {
        FairSlots x = Check.made(1, "1/3;1/3;1/3");
        for (int task = 0; task < 3; task++) {
            Check.due("TASK " + task, x.when(task, 1), task);
            Check.row("TASK " + task, x, 3 - task);
        }
        // Held back till SLOT 2 or 3 or 4: DEADLINE of PART 1 is 3.
        for (int slot = 2; slot <= 4; slot++) {
            x = Alike.held(3, 0, slot);
            Check.ties(x, "r");
            Check.due("in SLOT " + slot, x.when(1, 1), slot);
            Check.row("in SLOT " + slot, x, 3 - slot);
        }
    }

    /** -3: it was run. */
    private static void whenItWasRun() {
        FairSlots x = Check.made(1, "1/2");
        x.slots(5);
        Check.due("DONE", x.task(0, 4), 3);
        Check.due("PART 1", x.when(0, 1), -3);
        Check.due("PART 3", x.when(0, 3), -3);
        Check.due("PART 4", x.when(0, 4), 6);
        Check.due("PART 0", x.when(0, 0), -1);
        x.slots(60);
        x.slots(60);
        Check.due("DONE", x.task(0, 4), 63);
        Check.due("PART 60", x.when(0, 60), -3);
        Check.due("PART 61", x.when(0, 61), -1);
        Alike.refused("one that was run", Alike::rich, y -> y.when(0, 3), -3);
    }

    /** NONE: others (PART i is 1 .. 60). */
    private static void whenOfOthers() {
        for (int i : new int[] {0, 61, -1, FAR[0], FAR[1]}) {
            Alike.refused("when(0, " + i + ")", Alike::rich, x -> x.when(0, i), -1);
        }
        for (int task : new int[] {-1, 5, 7, 8, FAR[0], FAR[1]}) {
            Alike.refused("when(" + task + ", 1)", Alike::rich, x -> x.when(task, 1), -1);
            Alike.refused("when(" + task + ", 60)", Alike::rich, x -> x.when(task, 60), -1);
        }
    }

    /** Promise 23: The first SLOT of the next 99 in which MISSES come: it; the ROW: TASKS that miss. */
    private static void missesInTheNext99() {
        FairSlots x = Alike.held(8, 13, 0);
        Check.due("SLOT", x.count(2), 13);
        Check.due("in the last of the next 99", x.misses(), 111);
        Check.row("in the last of the next 99", x, 2);
        Alike.refused("behind the next 99", () -> Alike.held(12, 8, 0), y -> y.misses(), -2);
        x = Alike.held(12, 8, 1);
        Check.due("a SLOT later", x.misses(), 107);
        Check.row("a SLOT later", x, 2);
        x = Alike.held(2, 0, 1);
        Check.due("in this SLOT", x.misses(), 1);
        Check.row("in this SLOT", x, 2);
        x.slot();
        Check.due("in none", x.misses(), -2);
    }

    /** .. TASKS that miss in it (bits). */
    private static void missesOfAllThatMiss() {
        FairSlots x = Check.made(1, "1/12e;1/5;1/4;1/9;1/5;1/8");
        Check.ties(x, "");
        Check.due("the first", x.misses(), 3);
        Check.row("the first", x, 4);
        x.slots(4);
        Check.due("two in one SLOT", x.misses(), 4);
        Check.row("two in one SLOT", x, 18);
    }

    /** -2: none. */
    private static void missesOfNone() {
        Alike.refused("without TASKS", FairSlots::new, x -> x.misses(), -2);
        Alike.refused("all in time", () -> Check.made(1, "1/2;1/3;1/6"), x -> x.misses(), -2);
    }

    private static void round(String lines, int slots, int parts) {
        FairSlots x = Check.made(1, lines);
        Check.due("round() of " + lines, x.round(), slots);
        Check.row("round() of " + lines, x, parts);
    }

    /** Promise 24: Behind how many SLOTS (1 .. 99) LAGS of all TASKS are as now, first. */
    private static void roundBehindOneTo99() {
        round("1/1", 1, 1);
        round("1/2", 2, 1);
        round("6/12", 2, 1);
        round("1/2;1/3", 6, 5);
        round("5/9;4/11", 99, 91);
        round("1/9;1/11", 99, 20);
        round("1/7;1/12", 84, 19);
        // TASK 7 alone is behind longer.
        round("1/8;1/8;1/8;1/8;1/8;1/8;1/8;1/12", 24, 23);
        FairSlots x = Check.made(1, "1/2;1/3");
        x.slots(7);
        Check.due("round() from LAGS that are not 0", x.round(), 6);
        Check.row("round() from LAGS that are not 0", x, 5);
    }

    /** -2: behind none of these. */
    private static void roundOfNone() {
        for (String lines : new String[] {"1/10;1/11", "1/3;1/5;1/7", "1/12e", "1/11;1/12"}) {
            Alike.refused("round() of " + lines, () -> Check.made(1, lines), x -> x.round(), -2);
        }
        Alike.refused("round() of one that is held", () -> Alike.held(3, 0, 0), x -> x.round(), -2);
    }

    /** -3: there is no TASK. */
    private static void roundWithoutTask() {
        Alike.refused("round() of a new object", FairSlots::new, x -> x.round(), -3);
        Alike.refused("round() when all left", () -> {
            FairSlots x = Check.made(1, "1/2");
            x.use();
            x.leaves(0);
            return x;
        }, x -> x.round(), -3);
    }

    private static void share(FairSlots x, int task, int n, int often, long in, long out) {
        String what = "share(" + task + ", " + n + ") in SLOT " + x.count(2);
        Check.due(what, x.share(task, n), often);
        Check.row(what, x, in, out);
    }

    /** Promise 25: In how many of the next n SLOTS (1 .. 60) a TASK is run. */
    private static void shareFromOneTo60() {
        FairSlots x = Check.made(1, "1/12");
        share(x, 0, 1, 1, 1, 0);
        share(x, 0, 2, 1, 1, 1);
        share(x, 0, 12, 1, 1, 11);
        share(x, 0, 13, 2, 1, 11);
        share(x, 0, 48, 4, 1, 11);
        share(x, 0, 49, 5, 1, 11);
        share(x, 0, 60, 5, 1, 11);
        x.slot();
        share(x, 0, 1, 0, 0, 1);
        share(x, 0, 11, 0, 0, 11);
        share(x, 0, 12, 1, 1, 11);
        share(x, 0, 59, 4, 1, 11);
        share(x, 0, 60, 5, 1, 11);
        share(Check.made(1, "1/1"), 0, 60, 60, 60, 0);
        share(Alike.held(2, 0, 0), 1, 60, 0, 0, 60);
        share(Alike.held(2, 0, 0), 0, 60, 60, 60, 0);
    }

    /** .. the most SLOTS one behind the other in which it is, the most in which it is not. */
    private static void shareOneBehindTheOther() {
        // 3 by 4 alone is run in 0, 1, 2, 4, 5, 6, ..
        FairSlots x = Check.made(1, "3/4");
        share(x, 0, 2, 2, 2, 0);
        share(x, 0, 3, 3, 3, 0);
        share(x, 0, 4, 3, 3, 1);
        share(x, 0, 6, 5, 3, 1);
        x.slots(2);
        // From SLOT 2 on: one, then a gap, then three.
        share(x, 0, 3, 2, 1, 1);
        share(x, 0, 5, 4, 3, 1);
        // 2 by 5 alone is run in 0, 2, 5, 7: gaps of one and of two.
        x = Check.made(1, "2/5");
        share(x, 0, 3, 2, 1, 1);
        share(x, 0, 4, 2, 1, 1);
        share(x, 0, 5, 2, 1, 2);
        share(x, 0, 8, 4, 1, 2);
        x.slots(3);
        share(x, 0, 5, 2, 1, 2);
    }

    /** NONE: others. */
    private static void shareOfOthers() {
        for (int n : new int[] {0, 61, -1, FAR[0], FAR[1]}) {
            Alike.refused("share(0, " + n + ")", Alike::rich, x -> x.share(0, n), -1);
        }
        for (int task : new int[] {-1, 5, 7, 8, FAR[0], FAR[1]}) {
            Alike.refused("share(" + task + ", 1)", Alike::rich, x -> x.share(task, 1), -1);
        }
    }

    private static void pairs(FairSlots x, int n, int often, long one, long other) {
        String what = "pairs(" + n + ") in SLOT " + x.count(2);
        Check.due(what, x.pairs(n), often);
        Check.row(what, x, one, other);
    }

    /** Promise 26: In how many of the next n SLOTS (1 .. 60) the two TASKS .. both are. */
    private static void pairsFromOneTo60() {
        FairSlots x = Check.made(2, "1/12;1/12");
        pairs(x, 1, 1, 0, 1);
        pairs(x, 12, 1, 0, 1);
        pairs(x, 13, 2, 0, 1);
        pairs(x, 48, 4, 0, 1);
        pairs(x, 49, 5, 0, 1);
        pairs(x, 60, 5, 0, 1);
        x.slot();
        pairs(x, 1, 0, 0, 1);
        pairs(x, 11, 0, 0, 1);
        pairs(x, 12, 1, 0, 1);
        pairs(x, 59, 4, 0, 1);
        pairs(x, 60, 5, 0, 1);
        pairs(Check.made(2, "1/1;1/1"), 60, 60, 0, 1);
    }

    /** .. the two, the lesser first (of as many the least row). */
    private static void pairsOfAsMany() {
        // Never two in one: the least two that are there.
        FairSlots x = Check.made(1, "1/6;1/6;1/6;1/6");
        pairs(x, 60, 0, 0, 1);
        x.leaves(0);
        x.leaves(2);
        pairs(x, 60, 0, 1, 3);
        // Both of 2, 3 and 0, 1 are run in every other SLOT; from SLOT 1 on 2, 3 are once more.
        x = Check.made(2, "1/2;1/2;1/2;1/2");
        pairs(x, 1, 1, 0, 1);
        pairs(x, 2, 1, 0, 1);
        x.slot();
        pairs(x, 1, 1, 2, 3);
        pairs(x, 2, 1, 0, 1);
        pairs(x, 3, 2, 2, 3);
        // Of three in each SLOT (0, 6), (0, 7) and (6, 7) are as many.
        x = Check.made(4, "1/1;1/12;1/12;1/12;1/12;1/12;1/1;1/1");
        pairs(x, 60, 60, 0, 6);
        x.leaves(0);
        pairs(x, 60, 60, 6, 7);
    }

    /** -2: there are not two TASKS. */
    private static void pairsWithoutTwo() {
        Alike.refused("no TASK", FairSlots::new, x -> x.pairs(1), -2);
        Alike.refused("one TASK", () -> Check.made(2, "1/2"), x -> x.pairs(60), -2);
        Alike.refused("one of two left", () -> {
            FairSlots x = Check.made(1, "1/2;1/3");
            x.use();
            x.leaves(0);
            return x;
        }, x -> x.pairs(60), -2);
        pairs(Check.made(1, "1/2;1/3"), 60, 0, 0, 1);
    }

    /** NONE: another n. */
    private static void pairsOfAnotherN() {
        for (int n : new int[] {0, 61, -1, FAR[0], FAR[1]}) {
            Alike.refused("pairs(" + n + ")", Alike::rich, x -> x.pairs(n), -1);
            Alike.refused("pairs(" + n + ") of no TASK", FairSlots::new, x -> x.pairs(n), -1);
        }
    }

    private static void lags(FairSlots x, int n, int task, long... row) {
        String what = "lags(" + n + ") in SLOT " + x.count(2);
        Check.due(what, x.lags(n), task);
        Check.row(what, x, row);
    }

    /** Promise 27: The greatest LAG that any TASK has behind 1 .. n (1 .. 60) of the next SLOTS. */
    private static void lagsFromOneTo60() {
        FairSlots x = Check.made(1, "1/12");
        // LAG is 0 now, but not behind one SLOT.
        lags(x, 1, 0, 1, -11, 12, -11, 12);
        lags(x, 11, 0, 11, -1, 12, -11, 12);
        lags(x, 12, 0, 12, 0, 1, -11, 12);
        lags(x, 60, 0, 12, 0, 1, -11, 12);
        x.slots(11);
        lags(x, 1, 0, 1, 0, 1, 0, 1);
        lags(x, 2, 0, 1, 0, 1, -11, 12);
        // LAG of TASK 1 grows with each SLOT, that of TASK 0 falls.
        x = Alike.held(8, 13, 0);
        lags(x, 1, 1, 1, -45, 4, -77, 6);
        lags(x, 59, 1, 59, -4, 1, -66, 1);
        lags(x, 60, 1, 60, -31, 8, -803, 12);
    }

    /** (of as great ones the one that has it first, then the least). */
    private static void lagsOfAsGreat() {
        // 0 and 1 by turns: LAG of 1 is 1/2 behind one, of 0 never.
        lags(Check.made(1, "1/2;1/2"), 60, 1, 1, 1, 2, -1, 2);
        // 1 and 2 have 1/4 behind one.
        lags(Check.made(1, "1/2;2/8;3/12"), 1, 1, 1, 1, 4, -1, 2);
        // 1, which is there from SLOT 0 on, has 0 in SLOT 2, then 0, which joined in SLOT 1, in SLOT 3.
        FairSlots x = Check.made(1, "1/2;1/2");
        x.leaves(0);
        x.slot();
        Check.joins(x, "1/2");
        lags(x, 1, 1, 1, 0, 1, -1, 2);
        lags(x, 2, 1, 1, 0, 1, -1, 2);
        x.slot();
        lags(x, 1, 0, 1, 0, 1, -1, 2);
    }

    /** .. of TASKS that are there: not of such as left. */
    private static void lagsOfThoseThatAreThere() {
        FairSlots x = Check.made(1, "1/12;11/12");
        x.leaves(0);
        x.slots(2);
        lags(x, 1, 1, 1, -1, 4, -1, 4);
        lags(x, 10, 1, 10, 0, 1, -11, 12);
        x = Check.made(1, "1/12;11/12");
        x.leaves(1);
        x.slots(2);
        lags(x, 1, 0, 1, -3, 4, -3, 4);
        // TASK 7 of eight.
        x = Check.made(2, "1/12;1/12;1/12;1/12;1/12;1/12;1/12;1/2");
        Check.ties(x, "");
        lags(x, 1, 7, 1, 1, 2, -11, 12);
    }

    /** -2: there is no TASK. */
    private static void lagsWithoutTask() {
        Alike.refused("lags(1)", FairSlots::new, x -> x.lags(1), -2);
        Alike.refused("lags(60)", FairSlots::new, x -> x.lags(60), -2);
        lags(Check.made(1, "1/1"), 60, 0, 1, 0, 1, 0, 1);
    }

    /** NONE: another n. */
    private static void lagsOfAnotherN() {
        for (int n : new int[] {0, 61, -1, FAR[0], FAR[1]}) {
            Alike.refused("lags(" + n + ")", Alike::rich, x -> x.lags(n), -1);
            Alike.refused("lags(" + n + ") of no TASK", FairSlots::new, x -> x.lags(n), -1);
        }
    }
}
