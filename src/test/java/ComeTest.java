/** Promises 21 to 27: SLOTS to come. */
public final class ComeTest {
    private static final String THIRDS = "1/2;1/3;1/6";

    public static void main(String[] args) {
        promise21();
        promise22();
        promise23();
        promise24();
        promise25();
        promise26();
        promise27();
        questionsChangeNothing();
        Check.finish("ComeTest");
    }

    /** By no letters TASK 2 of these misses in SLOTS 1 and 2. */
    private static FairSlots late() {
        FairSlots x = Check.made(2, "2/3;2/3;2/3");
        Check.ties(x, "");
        return x;
    }

    private static void promise21() {
        FairSlots x = Check.made(1, THIRDS);
        int[] due = {1, 2, 1, 2, 1, 4};
        for (int n = 0; n < 100; n++) {
            Check.due("runs(" + n + ")", x.runs(n), due[n % 6]);
            Check.row("runs(" + n + ")", x, 0);
        }
        Check.due("runs(100)", x.runs(100), -1);
        Check.due("runs(-1)", x.runs(-1), -1);
        Check.row("the ROW stays", x, 0);
        x = late();
        int[] run = {3, 3, 4, 3};
        int[] misses = {0, 1, 2, 2};
        for (int n = 0; n < 4; n++) {
            Check.due("runs(" + n + ")", x.runs(n), run[n]);
            Check.row("runs(" + n + ")", x, misses[n]);
        }
        // Of SLOTS from this one on alone: MISSES that went by are not among them.
        x.slots(2);
        Check.due("MISSES that went by", x.count(3), 1);
        Check.due("runs(0) behind a MISS", x.runs(0), 4);
        Check.row("runs(0) behind a MISS", x, 1);
        Check.due("runs(4) behind a MISS", x.runs(4), 3);
        Check.row("runs(4) behind a MISS", x, 1);
        x.slots(1);
        Check.due("runs(0) behind two", x.runs(0), 3);
        Check.row("runs(0) behind two", x, 0);
        Check.due("without TASKS", new FairSlots().runs(99), 0);
    }

    private static void promise22() {
        FairSlots x = Check.made(1, THIRDS);
        Check.due("when(2, 1)", x.when(2, 1), 5);
        Check.row("when(2, 1)", x, 1);
        Check.due("when(0, 2)", x.when(0, 2), 2);
        Check.row("when(0, 2)", x, 2);
        Check.due("the last of the next 99", x.when(0, 50), 98);
        Check.row("the last of the next 99", x, 2);
        Check.due("behind these", x.when(0, 51), -2);
        Check.due("among these", x.when(1, 33), 97);
        Check.due("just behind these", x.when(1, 34), -2);
        Check.due("behind these", x.when(2, 17), -2);
        Check.due("none such", x.when(3, 1), -1);
        Check.due("when(-1, 1)", x.when(-1, 1), -1);
        Check.due("when(8, 1)", x.when(8, 1), -1);
        Check.due("when(0, 0)", x.when(0, 0), -1);
        Check.due("when(0, 61)", x.when(0, 61), -1);
        Check.row("the ROW stays", x, 2);
        x.slots(2);
        Check.due("it was run", x.when(0, 1), -3);
        Check.due("another i comes ahead", x.when(0, 0), -1);
        Check.due("the next", x.when(0, 2), 2);
        Check.due("of the next 99", x.when(0, 51), 100);
        Check.due("misses() from 2 on", x.misses(), -2);
        x = late();
        Check.due("too late", x.when(2, 1), 2);
        Check.row("too late", x, 0);
        Check.due("far too late", x.when(2, 2), 5);
        Check.row("far too late", x, -2);
        x = Check.made(1, "1/1");
        Check.due("when(0, 60)", x.when(0, 60), 59);
        Check.row("when(0, 60)", x, 1);
    }

    private static void promise23() {
        FairSlots x = Check.made(1, THIRDS);
        x.use();
        Check.due("none", x.misses(), -2);
        Check.row("the ROW stays", x, 1, 1, 0, 1);
        x = late();
        Check.due("misses()", x.misses(), 1);
        Check.row("misses()", x, 4);
        x.slots(2);
        x.runs(50);
        Check.due("the next", x.misses(), 2);
        Check.row("the next", x, 4);
        x.slots(1);
        Check.due("no more", x.misses(), -2);
        x = Check.made(4, "1/1e;1/1e;1/2e;1/2e;1/2;1/2");
        Check.ties(x, "");
        Check.due("two in a SLOT", x.misses(), 1);
        Check.row("two in a SLOT", x, 48);
        x = Check.made(2, "3/5;3/8;4/6");
        Check.ties(x, "b");
        Check.due("the last of the next 99", x.misses(), 98);
        x = Check.made(2, "1/3;5/11;3/4");
        Check.ties(x, "g");
        Check.due("behind the next 99", x.misses(), -2);
        x.slot();
        Check.due("among them then", x.misses(), 99);
    }

    private static void promise24() {
        FairSlots x = new FairSlots();
        Check.due("no TASK", x.round(), -3);
        x = Check.made(1, THIRDS);
        Check.due("round()", x.round(), 6);
        Check.row("round()", x, 6);
        x.slots(4);
        Check.due("round() from 4 on", x.round(), 6);
        Check.row("round() from 4 on", x, 6);
        x = Check.made(1, "1/9;1/11");
        Check.due("round() of 99", x.round(), 99);
        Check.row("round() of 99", x, 20);
        x = Check.made(1, "1/10;1/11");
        Check.due("round() of 110", x.round(), -2);
        x = Check.made(1, "1/2e");
        Check.due("one that runs ahead", x.round(), -2);
        Check.due("the ROW stays", x.count(9), 0);
        x = Check.made(4, "1/1;3/4");
        Check.due("round() of more PROCESSORS", x.round(), 4);
        Check.row("round() of more PROCESSORS", x, 7);
    }

    private static void promise25() {
        FairSlots x = Check.made(1, THIRDS);
        share(x, 0, 6, 3, 1, 1);
        share(x, 2, 6, 1, 1, 5);
        share(x, 2, 5, 0, 0, 5);
        share(x, 2, 12, 2, 1, 5);
        share(x, 0, 1, 1, 1, 0);
        share(x, 1, 60, 20, 1, 3);
        Check.due("share(0, 0)", x.share(0, 0), -1);
        Check.due("share(0, 61)", x.share(0, 61), -1);
        Check.due("share(3, 1)", x.share(3, 1), -1);
        Check.due("share(-1, 1)", x.share(-1, 1), -1);
        Check.due("share(8, 1)", x.share(8, 1), -1);
        Check.row("the ROW stays", x, 1, 3);
        share(Check.made(1, "3/4"), 0, 8, 6, 3, 1);
        share(Check.made(1, "1/1"), 0, 60, 60, 60, 0);
    }

    private static void share(FairSlots x, int task, int n, int often, int in, int out) {
        Check.due("share(" + task + ", " + n + ")", x.share(task, n), often);
        Check.row("share(" + task + ", " + n + ")", x, in, out);
    }

    private static void promise26() {
        FairSlots x = new FairSlots();
        Check.due("without TASKS", x.pairs(1), -2);
        Check.joins(x, "1/2");
        Check.due("one TASK", x.pairs(1), -2);
        Check.due("another n comes ahead", x.pairs(0), -1);
        Check.due("another n comes ahead", x.pairs(61), -1);
        x = Check.made(1, THIRDS);
        Check.due("never two in one", x.pairs(6), 0);
        Check.row("never two in one", x, 0, 1);
        x.slots(6);
        x.leaves(0);
        Check.due("never two, 0 left", x.pairs(6), 0);
        Check.row("never two, 0 left", x, 1, 2);
        x = Check.made(2, "1/2;1/2;1/2;1/2");
        Check.due("pairs(2)", x.pairs(2), 1);
        Check.row("pairs(2)", x, 0, 1);
        Check.due("pairs(60)", x.pairs(60), 30);
        Check.row("pairs(60)", x, 0, 1);
        x.slot();
        Check.due("pairs(3)", x.pairs(3), 2);
        Check.row("pairs(3)", x, 2, 3);
        x = Check.made(3, "1/1;1/2;1/1");
        Check.due("three PROCESSORS", x.pairs(4), 4);
        Check.row("three PROCESSORS", x, 0, 2);
    }

    private static void promise27() {
        FairSlots x = new FairSlots();
        Check.due("no TASK", x.lags(1), -2);
        Check.due("another n comes ahead", x.lags(0), -1);
        x = Check.made(1, THIRDS);
        Check.due("lags(1)", x.lags(1), 1);
        Check.row("lags(1)", x, 1, 1, 3, -1, 2);
        Check.due("lags(6)", x.lags(6), 2);
        Check.row("lags(6)", x, 5, 5, 6, -2, 3);
        Check.due("lags(60)", x.lags(60), 2);
        Check.row("lags(60)", x, 5, 5, 6, -2, 3);
        Check.due("lags(61)", x.lags(61), -1);
        x.slots(5);
        Check.due("not what is now", x.lags(1), 0);
        Check.row("not what is now", x, 1, 0, 1, 0, 1);
        x = Check.made(1, "1/2;1/2");
        Check.due("the first of as great ones", x.lags(4), 1);
        Check.row("the first of as great ones", x, 1, 1, 2, -1, 2);
        x = Check.made(1, "1/2;2/8;1/4");
        Check.due("the least of as great ones", x.lags(1), 1);
        Check.row("the least of as great ones", x, 1, 1, 4, -1, 2);
    }

    private static void questionsChangeNothing() {
        FairSlots x = late();
        x.runs(99);
        x.when(0, 60);
        x.misses();
        x.round();
        x.share(0, 60);
        x.pairs(60);
        x.lags(60);
        Check.due("SLOT", x.count(2), 0);
        Check.due("MISSES", x.count(3), 0);
        Check.due("DONE", x.count(5), 0);
        Check.due("what can be undone", x.count(8), 2);
        Check.due("slot()", x.slot(), 3);
    }
}
