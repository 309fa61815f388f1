/** Promises 9 to 15: SLOTS that go by, PROCESSORS, who leaves and hurries, shifts, undo. */
public final class SlotsTest {
    private static final String THIRDS = "1/2;1/3;1/6";

    public static void main(String[] args) {
        promise9();
        promise10();
        promise11();
        promise12();
        promise13();
        promise14();
        shiftsThatCannotStand();
        shiftsThatStop();
        promise15();
        undoOfAllKinds();
        undoOfOne();
        Check.finish("SlotsTest");
    }

    private static void promise9() {
        FairSlots x = Check.made(1, THIRDS);
        int[] run = {1, 2, 1, 2, 1, 4, 1};
        int[] ready = {3, 2, 2, 2, 2, 1, 3};
        for (int k = 0; k < run.length; k++) {
            Check.due("slot " + k, x.slot(), run[k]);
            Check.row("slot " + k, x, 0, ready[k]);
            Check.due("SLOT", x.count(2), k + 1);
        }
        x = Check.made(2, "2/3;2/3;2/3");
        Check.ties(x, "");
        Check.due("by none of the letters", x.slot(), 3);
        Check.row("slot 0", x, 0, 3);
        Check.due("slot 1", x.slot(), 3);
        Check.row("slot 1", x, 1, 3);
        Check.due("slot 2", x.slot(), 4);
        Check.row("slot 2", x, 1, 1);
        Check.due("MISSES", x.count(3), 2);
        // One of a TASK in a SLOT, though it is EARLY and there are PROCESSORS left.
        x = Check.made(4, "1/5e;1/4");
        Check.due("slot()", x.slot(), 3);
        Check.due("slot()", x.slot(), 1);
        Check.due("DONE", x.task(0, 4), 2);
        Check.due("without TASKS", new FairSlots().slot(), 0);
    }

    private static void promise10() {
        FairSlots x = Check.made(1, "1/2;1/3");
        Check.due("slots(6)", x.slots(6), 5);
        Check.row("slots(6)", x, 0, 1);
        Check.due("slots(0)", x.slots(0), 0);
        Check.row("slots(0)", x, 0, 0);
        Check.due("slots(60)", x.slots(60), 50);
        Check.row("slots(60)", x, 0, 10);
        Check.due("slots(61)", x.slots(61), -1);
        Check.due("slots(-1)", x.slots(-1), -1);
        Check.row("the ROW stays", x, 0, 10);
        Check.due("SLOT", x.count(2), 66);
        Check.due("what can be undone", x.count(8), 4);
        x = Check.made(2, "2/3;2/3;2/3");
        Check.ties(x, "");
        Check.due("slots(3)", x.slots(3), 5);
        Check.row("slots(3)", x, 2, 1);
        Check.due("slots(3)", x.slots(3), 5);
        Check.row("slots(3) more", x, 0, 1);
    }

    private static void promise11() {
        FairSlots x = new FairSlots();
        Check.due("processors(0)", x.processors(0), -1);
        Check.due("processors(5)", x.processors(5), -1);
        Check.due("processors(1)", x.processors(1), -2);
        Check.due("processors(4)", x.processors(4), 11);
        Check.due("processors(2)", x.processors(2), 14);
        Check.due("PROCESSORS", x.count(1), 2);
        Check.joins(x, "1/1;1/12");
        Check.due("processors(1)", x.processors(1), -3);
        Check.due("processors(2)", x.processors(2), -2);
        Check.due("processors(-1)", x.processors(-1), -1);
        Check.due("PROCESSORS", x.count(1), 2);
        x.leaves(1);
        Check.due("processors(1), as much as USE", x.processors(1), 12);
        Check.due("what can be undone", x.count(8), 5);
    }

    private static void promise12() {
        FairSlots x = Check.made(2, "2/5;2/3;1/3");
        Check.due("leaves(3)", x.leaves(3), -1);
        Check.due("leaves(-1)", x.leaves(-1), -1);
        Check.due("leaves(8)", x.leaves(8), -1);
        Check.due("none was run", x.leaves(2), 2);
        Check.due("it left", x.leaves(2), -1);
        leavesFrom(1, "1/3", 1, 3);
        // Of 2 by 5 the first PART has DEADLINE 3 and OVERLAP 1.
        leavesFrom(2, "2/5", 1, 4);
        leavesFrom(2, "2/3", 1, 3);
        leavesFrom(2, "1/2", 1, 2);
        leavesFrom(2, "8/11", 3, 8);
        // EARLY ones are run far ahead; the last PART that was run says when.
        leavesFrom(2, "1/3e", 3, 9);
        leavesFrom(2, "3/7e", 4, 11);
        leavesFrom(2, "2/3e", 2, 3);
    }

    /** A TASK of which PARTS are run, and then none more, may leave from a SLOT on. */
    private static void leavesFrom(int processors, String line, int parts, int from) {
        FairSlots x = Check.made(processors, processors == 2 ? "1/12e;" + line : line);
        int task = processors - 1;
        Check.ties(x, "");
        x.slots(parts);
        Check.due("DONE of " + line, x.task(task, 4), parts);
        if (processors == 2) {
            // By no letters the EARLY TASK 0 has the one PROCESSOR for itself.
            x.processors(1);
        }
        for (int slot = parts; slot < from; slot++) {
            Check.due(line + " leaves in SLOT " + slot, x.leaves(task), -3);
            x.slot();
        }
        Check.due("DONE of " + line, x.task(task, 4), parts);
        Check.due(line + " leaves in SLOT " + from, x.leaves(task), processors - 1);
        Check.due("TASKS", x.count(0), processors - 1);
    }

    private static void promise13() {
        FairSlots x = Check.made(1, "1/4;1/4e");
        Check.due("hurries(0)", x.hurries(0), 1);
        Check.due("EARLY", x.task(0, 3), 1);
        Check.due("hurries(1)", x.hurries(1), 0);
        Check.due("EARLY no more", x.task(1, 3), 0);
        Check.due("hurries(2)", x.hurries(2), -1);
        Check.due("hurries(-1)", x.hurries(-1), -1);
        Check.due("hurries(8)", x.hurries(8), -1);
        Check.due("what can be undone", x.count(8), 3);
        x.slots(3);
        Check.due("DONE of the EARLY one", x.task(0, 4), 2);
    }

    private static void promise14() {
        FairSlots x = Check.made(1, THIRDS);
        Check.due("nothing", Check.shift(x, ""), 0);
        Check.row("nothing", x, 0, 0);
        Check.due("what can be undone", x.count(8), 1);
        Check.due("all kinds", Check.shift(x, "*n05h0l1p2"), 5);
        Check.row("all kinds", x, 0, 6);
        Check.due("SLOT", x.count(2), 6);
        Check.due("EARLY", x.task(0, 3), 1);
        Check.due("TASKS", x.count(0), 5);
        Check.due("PROCESSORS", x.count(1), 2);
        Check.due("THE TEXT", x.count(10), 0);
        Check.due("as one", x.count(8), 2);
        Check.due("undo()", x.undo(), 1);
        Check.due("SLOT again", x.count(2), 0);
        Check.due("TASKS again", x.count(0), 7);
        Check.due("PROCESSORS again", x.count(1), 1);
        Check.due("n00", Check.shift(x, "n00"), 1);
        Check.row("n00", x, 0, 0);
        Check.due("n60n60", Check.shift(x, "n60n60"), 2);
        Check.row("n60n60", x, 0, 120);
    }

    private static void shiftsThatCannotStand() {
        String[] texts = {"x", "n", "n0", "n0x", "nx", "p", "*p", "**l", "h0x", "n111", "*n05l0 ", "0", "N05", "p12"};
        int[] places = {0, 1, 2, 2, 1, 1, 2, 3, 2, 3, 6, 0, 0, 2};
        for (int k = 0; k < texts.length; k++) {
            FairSlots x = Check.made(1, THIRDS);
            Check.due("shift() of " + texts[k], Check.shift(x, texts[k]), -1 - places[k]);
            Check.due("SLOT behind " + texts[k], x.count(2), 0);
            Check.due("what can be undone", x.count(8), 1);
            Check.due("THE TEXT", x.count(10), 0);
            Check.due("the ROW", x.count(9), 0);
        }
        String sixty = "*".repeat(60);
        FairSlots x = new FairSlots();
        Check.due("60 signs", Check.shift(x, sixty), 60);
        Check.due("61 signs", Check.shift(x, sixty + "*"), -61);
        Check.due("61 signs, the last bad", Check.shift(x, sixty + "x"), -61);
        Check.due("61 signs, one bad ahead", Check.shift(x, "*x" + sixty.substring(1)), -2);
        Check.due("61 signs, an ACT cut", Check.shift(x, sixty.substring(1) + "p2"), -61);
        Check.due("60 signs that end too early", Check.shift(x, sixty.substring(1) + "p"), -61);
        Check.due("59 signs that end too early", Check.shift(x, sixty.substring(2) + "p"), -60);
        Check.due("61 signs, the last but one bad", Check.shift(x, sixty.substring(1) + "xx"), -60);
        Check.due("SLOT", x.count(2), 60);
    }

    private static void shiftsThatStop() {
        FairSlots x = Check.made(1, THIRDS);
        Check.due("n61", Check.shift(x, "n61"), 0);
        Check.row("n61", x, 1, 0);
        Check.due("what can be undone", x.count(8), 1);
        Check.due("*p1*", Check.shift(x, "*p1*"), 1);
        Check.row("*p1*", x, 1, 1);
        Check.due("what can be undone", x.count(8), 2);
        // 0 was run in SLOT 0, so that it may not leave ahead of 2.
        Check.due("h0l0*", Check.shift(x, "h0l0*"), 1);
        Check.row("h0l0*", x, 1, 1);
        Check.due("*l9", Check.shift(x, "*l9"), 1);
        Check.due("*h7", Check.shift(x, "*h7"), 1);
        Check.due("*p0", Check.shift(x, "*p0"), 1);
        Check.due("SLOT", x.count(2), 4);
    }

    private static void promise15() {
        FairSlots x = new FairSlots();
        Check.due("undo() of nothing", x.undo(), -1);
        Check.joins(x, "1/2");
        for (int k = 0; k < 13; k++) {
            x.slot();
        }
        Check.due("12 are kept", x.count(8), 12);
        for (int k = 11; k >= 0; k--) {
            Check.due("undo()", x.undo(), k);
        }
        Check.due("undo() of no more", x.undo(), -1);
        Check.due("SLOT", x.count(2), 1);
        Check.due("TASKS", x.count(0), 1);
        Check.due("DONE", x.task(0, 4), 1);
        x.slots(5);
        x.slots(5);
        Check.due("undo()", x.undo(), 1);
        Check.due("SLOT", x.count(2), 6);
    }

    /** What is undone is the latest alone, with all that was there ahead of it. */
    private static void undoOfOne() {
        FairSlots x = Check.made(2, "1/2;1/3");
        x.slots(3);
        x.leaves(1);
        x.slots(4);
        x.hurries(0);
        Check.due("undo() of hurries()", x.undo(), 5);
        Check.due("SLOT", x.count(2), 7);
        Check.due("TASKS", x.count(0), 1);
        x.processors(1);
        Check.due("undo() of processors()", x.undo(), 5);
        Check.due("SLOT", x.count(2), 7);
        Check.due("DONE", x.task(0, 4), 4);
        x.slot();
        x.leaves(0);
        Check.due("undo() of leaves()", x.undo(), 6);
        Check.due("SLOT", x.count(2), 8);
        Check.due("TASKS", x.count(0), 1);
        Check.shift(x, "*h0*");
        Check.due("undo() of shift()", x.undo(), 6);
        Check.due("SLOT", x.count(2), 8);
        Check.due("EARLY", x.task(0, 3), 0);
        Check.due("undo() of slot()", x.undo(), 5);
        Check.due("undo() of slots(4)", x.undo(), 4);
        Check.due("undo() of leaves()", x.undo(), 3);
        Check.due("TASKS", x.count(0), 3);
        Check.due("DONE of 1", x.task(1, 4), 1);
        Check.due("what it has next", x.part(1, 2, 0), 3);
        Check.due("slot()", x.slot(), 2);
    }

    private static void undoOfAllKinds() {
        FairSlots x = Check.made(2, "2/3;2/3;2/3");
        Check.ties(x, "");
        x.heard(0, 3);
        x.saw(1, 0);
        x.slots(3);
        Check.due("MISSES", x.count(3), 2);
        x.slots(0);
        x.hurries(2);
        x.processors(3);
        x.joins();
        x.slots(61);
        x.leaves(7);
        x.processors(3);
        Check.shift(x, "p3");
        Check.due("what can be undone", x.count(8), 6);
        Check.due("undo() of processors()", x.undo(), 5);
        Check.due("PROCESSORS", x.count(1), 2);
        Check.due("undo() of hurries()", x.undo(), 4);
        Check.due("EARLY", x.task(2, 3), 0);
        Check.due("undo() of slots(0)", x.undo(), 3);
        Check.due("MISSES", x.count(3), 2);
        Check.due("undo() of slots(3)", x.undo(), 2);
        Check.due("MISSES", x.count(3), 0);
        Check.due("TIES stay", x.count(4), 0);
        Check.due("heard stays", x.count(6), 1);
        Check.due("seen stays", x.count(7), 1);
        Check.due("undo() of joins()", x.undo(), 1);
        Check.due("TASKS", x.count(0), 0);
        Check.due("undo() of processors()", x.undo(), 0);
        Check.due("PROCESSORS", x.count(1), 1);
        Check.due("undo() of no more", x.undo(), -1);
    }
}
