/** Promises 43 to 48: other TIES, work drawn by a seed, what is kept, counts, the ROW. */
public final class WorkTest {
    public static void main(String[] args) {
        promise43();
        promise44();
        promise45();
        promise46();
        promise47();
        promise48();
        manyCalls();
        Check.finish("WorkTest");
    }

    private static void promise43() {
        FairSlots x = Check.made(2, "2/3;2/3;2/3");
        Check.due("law()", Check.law(x, ""), 2);
        Check.row("law()", x, 2, 0, 1, -1);
        Check.due("TIES", x.count(4), 3);
        Check.due("THE TEXT", x.count(10), 0);
        Check.due("law() of x", Check.law(x, "x"), -10000);
        Check.due("law() of dd", Check.law(x, "dd"), -10001);
        Check.due("law() of dbgwrd", Check.law(x, "dbgwrd"), -10005);
        Check.due("THE TEXT", x.count(10), 0);
        Check.row("the ROW stays", x, 2, 0, 1, -1);
        x.slots(3);
        Check.due("law() from 3 on", Check.law(x, ""), 2);
        Check.row("law() from 3 on", x, 2, 0, 4, -1);
        Check.ties(x, "");
        Check.due("the other way", Check.law(x, "dbg"), -2);
        Check.row("the other way", x, 0, 2, -1, 4);
        x.slots(3);
        Check.due("MISSES", x.count(3), 2);
        Check.due("what went by does not count", Check.law(x, ""), 0);
        Check.row("what went by does not count", x, 0, 0, -1, -1);
        x = Check.made(3, "2/3;2/3;9/10;3/4");
        Check.law(x, "dr");
        Check.due("in the last of 60", x.row(2), 59);
        x = Check.made(2, "3/7;5/8;7/9");
        Check.law(x, "g");
        Check.row("behind 60", x, 0, 0, -1, -1);
        Check.due("SLOT", x.count(2), 0);
    }

    private static void promise44() {
        // By the seed 7: four SLOTS, 5 leaves, two SLOTS, 1 leaves, 3 leaves.
        FairSlots x = Check.made(1, "1/2;1/3;1/6");
        Check.due("years(7, 7)", x.years(7, 7), 0);
        Check.row("years(7, 7)", x, 7, 6);
        Check.due("years(7, 9)", x.years(7, 9), 0);
        Check.row("years(7, 9)", x, 5, 4);
        Check.due("years(7, 1)", x.years(7, 1), 0);
        Check.row("years(7, 1)", x, 7, 1);
        x.years(7, 9);
        Check.due("years(7, 0)", x.years(7, 0), -1);
        Check.due("years(7, 61)", x.years(7, 61), -1);
        Check.row("the ROW stays", x, 5, 4);
        Check.due("TASKS", x.count(0), 7);
        Check.due("SLOT", x.count(2), 0);
        Check.due("what can be undone", x.count(8), 1);
        // By 100: 0 is EARLY, then three SLOTS.
        x = Check.made(1, "1/4");
        Check.due("years(100, 4)", x.years(100, 4), 0);
        Check.row("years(100, 4)", x, 1, 3);
        Check.due("EARLY", x.task(0, 3), 0);
        // By 5: a SLOT, then 0 leaves, if it may, which it may not.
        Check.due("years(5, 2)", x.years(5, 2), 0);
        Check.row("years(5, 2)", x, 1, 1);
        // By -2147483648: two SLOTS, 5 is not there, a SLOT more: MISSES in these alone.
        x = Check.made(2, "2/3;2/3;2/3");
        Check.ties(x, "");
        Check.due("years with MISSES", x.years(Integer.MIN_VALUE, 4), 2);
        Check.row("years with MISSES", x, 7, 5);
        x.slots(3);
        Check.due("MISSES more", x.years(Integer.MIN_VALUE, 4), 0);
        Check.row("MISSES more", x, 7, 10);
        Check.due("without TASKS", new FairSlots().years(0, 60), 0);
    }

    private static void promise45() {
        FairSlots x = Check.made(1, "1/2");
        Check.due("keep(0)", x.keep(0), true);
        Check.due("keep(1)", x.keep(1), true);
        Check.due("keep(2)", x.keep(2), false);
        Check.due("keep(-1)", x.keep(-1), false);
        Check.due("what can be undone stays", x.count(8), 1);
        x.slot();
        x.keep(1);
        x.slots(3);
        x.again(1);
        Check.due("kept anew", x.count(2), 1);
        x.again(0);
        Check.due("kept first", x.count(2), 0);
    }

    private static void promise46() {
        FairSlots x = Check.made(2, "2/3;2/3;2/3");
        Check.due("nothing kept", x.again(0), false);
        Check.due("again(-1)", x.again(-1), false);
        Check.due("again(2)", x.again(2), false);
        Check.due("what can be undone", x.count(8), 2);
        Check.ties(x, "");
        x.slots(3);
        x.keep(0);
        Check.due("the other number", x.again(1), false);
        x.slots(3);
        x.sheet(2, 8, 1, 0);
        x.leaves(0);
        x.processors(4);
        Check.joins(x, "1/5");
        Check.ties(x, "wr");
        x.heard(0, 3);
        x.saw(1, 0);
        Check.due("again(0)", x.again(0), true);
        Check.due("SLOT", x.count(2), 3);
        Check.due("MISSES", x.count(3), 2);
        Check.due("TASKS", x.count(0), 7);
        Check.due("PROCESSORS", x.count(1), 2);
        Check.due("DONE", x.count(5), 5);
        Check.due("EARLY", x.task(1, 3), 0);
        Check.due("TIES stay", x.count(4), 2);
        Check.due("heard stays", x.count(6), 1);
        Check.due("seen stays", x.count(7), 1);
        Check.due("undone is forgotten", x.count(8), 0);
        Check.due("undo()", x.undo(), -1);
        x.slot();
        Check.due("again(0) again", x.again(0), true);
        Check.due("SLOT", x.count(2), 3);
    }

    private static void promise47() {
        FairSlots x = Check.made(2, "2/3;2/3;2/3");
        Check.ties(x, "");
        x.slots(3);
        x.heard(0, 3);
        x.saw(1, 0);
        x.saw(1, 0);
        x.sign(0);
        int[] due = {7, 2, 3, 2, 0, 5, 1, 2, 3, 2, 4};
        for (int what = 0; what <= 10; what++) {
            Check.due("count(" + what + ")", x.count(what), due[what]);
        }
        Check.due("count(11)", x.count(11), -1);
        Check.due("count(-1)", x.count(-1), -1);
        // DONE of one that left is gone.
        x.leaves(0);
        Check.due("DONE of all", x.count(5), 3);
        Check.due("TASKS", x.count(0), 6);
    }

    private static void promise48() {
        FairSlots x = new FairSlots();
        Check.noNumber("row(0) of nothing", x, 0);
        x.use();
        Check.due("row(2)", x.row(2), 1);
        Check.noNumber("row(4)", x, 4);
        Check.noNumber("row(-1)", x, -1);
        Check.noNumber("row(MIN)", x, Integer.MIN_VALUE);
        x.fewest();
        Check.due("row(0)", x.row(0), 0);
        Check.noNumber("row(1)", x, 1);
        x.order();
        Check.noNumber("row(0) of an empty one", x, 0);
        x.odds(8, 8, 1);
        Check.due("row(1)", x.row(1), 100000000L);
    }

    /** An object stands 512 calls of the dearest kinds, far ahead and far behind. */
    private static void manyCalls() {
        FairSlots x = Check.made(1, "1/12e;1/12;10/12");
        Check.ties(x, "");
        for (int k = 0; k < 500; k++) {
            x.slots(60);
        }
        Check.due("SLOT", x.count(2), 30000);
        Check.due("DONE of the EARLY one", x.task(0, 4), 30000);
        Check.due("DONE of the others", x.task(1, 4), 0);
        x.lag(2);
        Check.row("lag(2)", x, 25000, 1);
        x.lag(0);
        Check.row("lag(0)", x, -27500, 1);
        Check.due("flow(8)", x.flow(8), 6);
        Check.row("flow(8)", x, 6);
        Check.due("MISSES", x.count(3), 2);
    }
}
