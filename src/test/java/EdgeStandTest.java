/** The boundary cases that promises 16 to 20 name, one test a sentence, which stands ahead of it. */
public final class EdgeStandTest {
    private static final String EIGHT = "1/12;1/12;1/12;1/12;1/12;1/12;1/12;1/2";

    public static void main(String[] args) {
        lagAboveAndBelowZero();
        lagOfNoneSuch();
        useOfNoneAndOfAll();
        orderOfNoneAndOfAll();
        orderInThisSlotAlone();
        behindTheGreatest();
        behindTheLeastOfAsGreat();
        behindOfNone();
        aheadOfTheFirstAndTheLast();
        aheadOfOneThatIsNotReady();
        aheadOfNoneSuch();
        Check.finish("EdgeStandTest");
    }

    private static void lag(FairSlots x, int task, long upper, long lower) {
        Check.due("lag(" + task + ")", x.lag(task), 0);
        Check.row("lag(" + task + ")", x, upper, lower);
    }

    /** Promise 16: LAG of a TASK: 0; the ROW: the fraction (the upper number may be below 0). */
    private static void lagAboveAndBelowZero() {
        FairSlots x = Check.made(1, "1/12;10/12;1/12");
        lag(x, 0, 0, 1);
        x.slot();
        lag(x, 0, 1, 12);
        lag(x, 1, -1, 6);
        lag(x, 2, 1, 12);
        x = Check.made(1, "12/12");
        for (int k = 0; k < 3; k++) {
            lag(x, 0, 0, 1);
            x.slot();
        }
        x = Check.made(1, "1/12e");
        x.slots(60);
        lag(x, 0, -55, 1);
        // It waits for ever: LAG is above 1.
        x = Check.made(1, "1/12e;11/12");
        Check.ties(x, "");
        x.slots(24);
        lag(x, 1, 22, 1);
        x.slot();
        lag(x, 1, 275, 12);
    }

    /** NONE: none such. */
    private static void lagOfNoneSuch() {
        for (int task : new int[] {-1, 5, 7, 8, Integer.MIN_VALUE, Integer.MAX_VALUE}) {
            Alike.refused("lag(" + task + ")", Alike::rich, x -> x.lag(task), -1);
        }
        FairSlots x = Check.made(2, EIGHT);
        lag(x, 7, 0, 1);
        x.leaves(7);
        Check.due("lag(7) of one that left", x.lag(7), -1);
    }

    private static void use(FairSlots x, long... row) {
        Check.due("use()", x.use(), 0);
        Check.row("use()", x, row);
    }

    /** Promise 17: USE: 0; the ROW: the fraction, then what is left of PROCESSORS, as a fraction. */
    private static void useOfNoneAndOfAll() {
        FairSlots x = new FairSlots();
        use(x, 0, 1, 1, 1);
        x.processors(4);
        use(x, 0, 1, 4, 1);
        Check.joins(x, "1/1;1/1;1/1;11/12");
        use(x, 47, 12, 1, 12);
        Check.joins(x, "1/12");
        use(x, 4, 1, 0, 1);
        x = Check.made(1, "10/11;1/12");
        use(x, 131, 132, 1, 132);
        use(Check.made(3, "1/11;1/8;3/7;5/9;4/5"), 55441, 27720, 27719, 27720);
        // The lower number that all P have together.
        use(Check.made(2, "1/8;1/9;1/5;1/7;1/11"), 18569, 27720, 36871, 27720);
    }

    /** Promise 18: .. how many; the ROW: they. */
    private static void orderOfNoneAndOfAll() {
        FairSlots x = new FairSlots();
        x.use();
        Check.due("order() of none", x.order(), 0);
        Check.row("order() of none", x);
        x = Check.made(2, EIGHT);
        Check.due("order() of eight", x.order(), 8);
        Check.row("order() of eight", x, 7, 0, 1, 2, 3, 4, 5, 6);
        x.slot();
        Check.due("order() of six", x.order(), 6);
        Check.row("order() of six", x, 1, 2, 3, 4, 5, 6);
        x.slots(3);
        Check.due("order() of the last and the first", x.order(), 2);
        Check.row("order() of the last and the first", x, 7, 6);
        x.slot();
        Check.due("order() when none is READY", x.order(), 0);
        Check.row("order() when none is READY", x);
    }

    /** TASKS whose next PARTS are READY in SLOT: from RELEASE on, or if they are EARLY. */
    private static void orderInThisSlotAlone() {
        FairSlots x = Check.made(1, "1/4;1/3");
        x.slots(2);
        Check.due("RELEASE 3 and 4 in SLOT 2", x.order(), 0);
        x.slot();
        Check.due("RELEASE 3 in SLOT 3", x.order(), 1);
        Check.row("RELEASE 3 in SLOT 3", x, 1);
        x.hurries(0);
        Check.due("an EARLY one in SLOT 3", x.order(), 2);
        Check.row("an EARLY one in SLOT 3", x, 1, 0);
        x.hurries(0);
        x.slot();
        Check.due("RELEASE 4 in SLOT 4", x.order(), 1);
        Check.row("RELEASE 4 in SLOT 4", x, 0);
    }

    private static void behind(FairSlots x, int task, long upper, long lower) {
        Check.due("behind()", x.behind(), task);
        Check.row("behind()", x, upper, lower);
    }

    /** Promise 19: The TASK whose LAG is the greatest: it; the ROW: its LAG. */
    private static void behindTheGreatest() {
        // Behind a SLOT LAGS are 1/12 less 1, 5/12 less 1, 4/11, 3/8 and 1/12.
        FairSlots x = Check.made(2, "1/12;5/12;4/11;3/8;1/12");
        Check.ties(x, "");
        x.slot();
        behind(x, 3, 3, 8);
        x = Check.made(2, "1/12;5/12;3/8;4/11;1/12");
        Check.ties(x, "");
        x.slot();
        behind(x, 2, 3, 8);
        // All are below 0.
        x = Check.made(2, "1/12e;1/11e");
        x.slot();
        behind(x, 1, -10, 11);
        // What left does not count.
        x = Check.made(1, "11/12;1/12");
        Check.ties(x, "w");
        x.leaves(0);
        x.slots(3);
        behind(x, 1, -3, 4);
        // TASK 7 alone.
        x = Check.made(2, EIGHT);
        Check.ties(x, "");
        x.slot();
        behind(x, 7, 1, 2);
    }

    /** (of as great ones the least). */
    private static void behindTheLeastOfAsGreat() {
        behind(Check.made(1, "1/2;1/3;1/6"), 0, 0, 1);
        FairSlots x = Check.made(2, "1/2;1/2;1/12;3/12;2/8");
        x.slot();
        behind(x, 3, 1, 4);
        x = Check.made(2, "1/2;1/2;2/8;3/12;1/12");
        x.slot();
        behind(x, 2, 1, 4);
    }

    /** -2: there is none. */
    private static void behindOfNone() {
        Alike.refused("behind() of a new object", FairSlots::new, x -> x.behind(), -2);
        Alike.refused("behind() when all left", () -> {
            FairSlots x = Check.made(1, "1/2;1/3");
            x.use();
            x.leaves(0);
            x.leaves(1);
            return x;
        }, x -> x.behind(), -2);
        behind(Check.made(1, "1/12"), 0, 0, 1);
    }

    private static void ahead(FairSlots x, int task, long... row) {
        Check.due("ahead(" + task + ")", x.ahead(task), row.length);
        Check.row("ahead(" + task + ")", x, row);
    }

    /** Promise 20: How many come ahead of a TASK in order(): how many; the ROW: they, as there. */
    private static void aheadOfTheFirstAndTheLast() {
        FairSlots x = Check.made(2, EIGHT);
        x.use();
        ahead(x, 7);
        ahead(x, 0, 7);
        ahead(x, 6, 7, 0, 1, 2, 3, 4, 5);
        ahead(Check.made(1, "1/12"), 0);
    }

    /** -2: it is not READY. */
    private static void aheadOfOneThatIsNotReady() {
        FairSlots x = Check.made(1, "1/3;1/4");
        x.slots(2);
        Check.due("ahead(0) in SLOT 2", x.ahead(0), -2);
        x.slot();
        ahead(x, 0);
        Check.due("ahead(1) in SLOT 3", x.ahead(1), -2);
        x.hurries(1);
        ahead(x, 1, 0);
        Alike.refused("ahead() of one that is not READY", () -> {
            FairSlots y = Check.made(1, "1/3;1/4");
            y.slot();
            return y;
        }, y -> y.ahead(0), -2);
    }

    /** NONE: none such. */
    private static void aheadOfNoneSuch() {
        for (int task : new int[] {-1, 5, 7, 8, Integer.MIN_VALUE, Integer.MAX_VALUE}) {
            Alike.refused("ahead(" + task + ")", Alike::rich, x -> x.ahead(task), -1);
        }
    }
}
