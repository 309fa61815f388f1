/** The boundary cases that promises 9 to 15 name, one test a sentence, which stands ahead of it. */
public final class EdgeSlotsTest {
    private static final String SIXTY = "*".repeat(60);

    public static void main(String[] args) {
        slotOfNoneAndOfAll();
        slotOfManyMisses();
        slotsFromNoneTo60();
        slotsOfAnotherN();
        slotsThatWereIdle();
        processorsFromOneToFour();
        processorsOfAnotherV();
        processorsAsTheyAre();
        processorsBelowUse();
        leavesOfLessThanHalf();
        leavesOfHalfAndMore();
        leavesWithoutOneRun();
        leavesFromJoinedOn();
        leavesOfNoneSuch();
        leavesToTheLast();
        hurriesToAndFro();
        hurriesOfNoneSuch();
        shiftOfNothing();
        shiftOfEachAct();
        shiftTillOneCannotBe();
        shiftThatEndsTooEarly();
        shiftThatCannotStand();
        shiftOfSixtySigns();
        undoOfEachCall();
        undoOfTwelve();
        undoOfSuchAsWereDone();
        undoOfNoSlots();
        undoOfShifts();
        undoLeavesTiesAndWhatWasHeard();
        undoOfNone();
        undoBehindAgain();
        Check.finish("EdgeSlotsTest");
    }

    /** Promise 9: TASKS of which PARTS were run (bits); the ROW: .. how many PARTS were READY. */
    private static void slotOfNoneAndOfAll() {
        FairSlots x = new FairSlots();
        Check.due("slot() without TASKS", x.slot(), 0);
        Check.row("slot() without TASKS", x, 0, 0);
        Check.due("SLOT", x.count(2), 1);
        x = Check.made(4, "1/12;1/12;1/12;1/12;1/12;1/12;1/12;1/2");
        Check.due("TASK 7 is the first of eight", x.slot(), 0b10000111);
        Check.row("all eight READY", x, 0, 8);
        Check.due("the others", x.slot(), 0b01111000);
        Check.row("the others", x, 0, 4);
        Check.due("the next PART of 7", x.slot(), 0b10000000);
        Check.row("the next PART of 7", x, 0, 1);
        Check.due("none is READY", x.slot(), 0);
        Check.row("none is READY", x, 0, 0);
    }

    /** .. the ROW: MISSES more (those of this SLOT, of each TASK that misses in it). */
    private static void slotOfManyMisses() {
        FairSlots x = Check.made(1, "1/12e;1/4;1/4;1/3");
        Check.ties(x, "");
        int[] more = {0, 0, 1, 2, 0, 0};
        for (int slot = 0; slot < more.length; slot++) {
            Check.due("slot()", x.slot(), 1);
            Check.row("SLOT " + slot, x, more[slot], 4);
        }
        Check.due("MISSES", x.count(3), 3);
    }

    /** Promise 10: n SLOTS (0 .. 60) go by: how many PARTS were run. */
    private static void slotsFromNoneTo60() {
        FairSlots x = Check.made(2, "1/1;1/12");
        Check.due("slots(0)", x.slots(0), 0);
        Check.row("slots(0)", x, 0, 0);
        Check.due("SLOT", x.count(2), 0);
        Check.due("slots(1)", x.slots(1), 2);
        Check.row("slots(1)", x, 0, 0);
        Check.due("slots(59)", x.slots(59), 59 + 4);
        Check.row("slots(59)", x, 0, 55);
        Check.due("slots(60)", x.slots(60), 60 + 5);
        Check.row("slots(60)", x, 0, 55);
        Check.due("SLOT", x.count(2), 120);
    }

    /** Refused: another n. */
    private static void slotsOfAnotherN() {
        for (int n : new int[] {-1, 61, 100, -60, Integer.MIN_VALUE, Integer.MAX_VALUE}) {
            Alike.refused("slots(" + n + ")", Alike::rich, x -> x.slots(n), -1);
        }
    }

    /** .. the ROW: MISSES more, in how many SLOTS some PROCESSOR was idle. */
    private static void slotsThatWereIdle() {
        FairSlots x = Check.made(1, "1/1");
        x.slots(60);
        Check.row("none was idle", x, 0, 0);
        x = Check.made(2, "1/1");
        x.slots(60);
        Check.row("one of two in each", x, 0, 60);
        x = new FairSlots();
        Check.due("no TASKS", x.slots(60), 0);
        Check.row("no TASKS", x, 0, 60);
        x = Check.made(4, "1/1;1/1;1/1;1/2");
        x.slots(7);
        Check.row("one of four in every other one", x, 0, 3);
        // MISSES: of TASKS 1 and 2 in SLOT 3, of TASK 3 in SLOT 2.
        x = Check.made(1, "1/12e;1/4;1/4;1/3");
        Check.ties(x, "");
        x.slots(2);
        Check.row("none in two", x, 0, 0);
        x.slots(2);
        Check.row("three in two", x, 3, 0);
        x.slots(60);
        Check.row("none in sixty", x, 0, 0);
    }

    /** Promise 11: PROCESSORS are v (1 .. 4): 10 and how many they were. */
    private static void processorsFromOneToFour() {
        for (int from = 1; from <= 4; from++) {
            for (int to = 1; to <= 4; to++) {
                FairSlots x = new FairSlots();
                x.processors(from);
                Check.due("from " + from + " to " + to, x.processors(to), from == to ? -2 : 10 + from);
                Check.due("PROCESSORS", x.count(1), to);
            }
        }
    }

    /** NONE: another v. */
    private static void processorsOfAnotherV() {
        for (int v : new int[] {0, 5, -1, Integer.MIN_VALUE, Integer.MAX_VALUE}) {
            Alike.refused("processors(" + v + ")", Alike::rich, x -> x.processors(v), -1);
        }
    }

    /** -2: as many as they are. */
    private static void processorsAsTheyAre() {
        Alike.refused("one of one", FairSlots::new, x -> x.processors(1), -2);
        Alike.refused("two of two, all in use", () -> Check.made(2, "1/1;1/1"), x -> x.processors(2), -2);
        Alike.refused("four of four", () -> Check.made(4, "1/12"), x -> x.processors(4), -2);
    }

    /** -3: USE is above v. */
    private static void processorsBelowUse() {
        Alike.refused("1 and 1/12", () -> Check.made(2, "1/1;1/12"), x -> x.processors(1), -3);
        Alike.refused("1 and 1/132", () -> Check.made(2, "1/11;11/12"), x -> x.processors(1), -3);
        Alike.refused("2 and 1/27720", () -> Check.made(3, "1/11;1/8;3/7;5/9;4/5"), x -> x.processors(2), -3);
        Check.due("3 less 1/27720", Check.made(4, "1/5;4/9;4/7;7/8;10/11").processors(3), 14);
        Alike.refused("3 and 1/12", () -> Check.made(4, "1/1;1/1;1/1;1/12"), x -> x.processors(3), -3);
        Check.due("131/132", Check.made(2, "10/11;1/12").processors(1), 12);
        Check.due("1", Check.made(2, "1/2;1/3;1/6").processors(1), 12);
        Check.due("3", Check.made(4, "1/1;1/1;1/1").processors(3), 14);
        FairSlots x = Check.made(2, "1/1;1/12");
        x.leaves(1);
        Check.due("1, when 1/12 left", x.processors(1), 12);
    }

    /**
     * TASK 1, of which so many PARTS were run, is held back then: it may not leave ahead of SLOT when, but
     * from it on.
     */
    private static void mayLeave(String line, int parts, int when) {
        FairSlots x = Check.made(2, "1/12e;" + line + "e");
        Check.ties(x, "");
        x.slots(parts);
        x.processors(1);
        Check.due("DONE of " + line, x.task(1, 4), parts);
        while (x.count(2) < when) {
            Check.due(line + " leaves in SLOT " + x.count(2), x.leaves(1), -3);
            Check.due("TASKS", x.count(0), 3);
            x.slot();
        }
        Check.due("DONE of " + line, x.task(1, 4), parts);
        Check.due(line + " leaves in SLOT " + when, x.leaves(1), 1);
        Check.due("TASKS", x.count(0), 1);
    }

    /** Promise 12: SLOT is less than WHEN: of PART DONE: .. else DEADLINE and OVERLAP. */
    private static void leavesOfLessThanHalf() {
        mayLeave("1/3", 1, 3);
        mayLeave("1/3", 2, 6);
        mayLeave("1/12", 1, 12);
        // DEADLINES 3, 5 and 8, OVERLAP 1, 0 and 1.
        mayLeave("2/5", 1, 4);
        mayLeave("2/5", 2, 5);
        mayLeave("2/5", 3, 9);
        mayLeave("5/11", 1, 4);
        mayLeave("5/12", 5, 12);
    }

    /** .. GROUP DEADLINE, if that is not 0. */
    private static void leavesOfHalfAndMore() {
        mayLeave("1/2", 1, 2);
        mayLeave("5/10", 3, 6);
        mayLeave("2/3", 1, 3);
        mayLeave("2/3", 2, 3);
        mayLeave("6/11", 1, 3);
        mayLeave("6/11", 2, 5);
        mayLeave("3/4", 1, 4);
        mayLeave("11/12", 1, 12);
        mayLeave("11/12", 9, 12);
        // Of 1 by 1 each PART has the SLOT behind it as GROUP DEADLINE.
        FairSlots x = Check.made(1, "1/1");
        x.slots(3);
        Check.due("1/1 leaves at once", x.leaves(0), 0);
    }

    /** (none was run: it may). */
    private static void leavesWithoutOneRun() {
        FairSlots x = Check.made(1, "1/2");
        Check.due("in the SLOT in which it joined", x.leaves(0), 0);
        x = Check.made(1, "1/12e;11/12");
        Check.ties(x, "");
        x.slots(5);
        Check.due("DONE", x.task(1, 4), 0);
        Check.due("five SLOTS behind it", x.leaves(1), 1);
        x = Check.made(1, "1/12");
        x.slot();
        Check.due("one was run", x.leaves(0), -3);
        x.undo();
        Check.due("none was run, as it was undone", x.leaves(0), 0);
    }

    /** .. DEADLINE and GROUP DEADLINE are counted from JOINED on. */
    private static void leavesFromJoinedOn() {
        FairSlots x = new FairSlots();
        x.slots(10);
        Check.joins(x, "1/3;2/4");
        Check.due("both are run", x.slots(2), 2);
        Check.due("1/3 in SLOT 12", x.leaves(0), -3);
        Check.due("2/4 in SLOT 12", x.leaves(1), 1);
        x.slot();
        Check.due("1/3 in SLOT 13", x.leaves(0), 0);
    }

    /** NONE: none such. */
    private static void leavesOfNoneSuch() {
        for (int task : new int[] {-1, 5, 7, 8, Integer.MIN_VALUE, Integer.MAX_VALUE}) {
            Alike.refused("leaves(" + task + ")", Alike::rich, x -> x.leaves(task), -1);
            Alike.refused("hurries(" + task + ")", Alike::rich, x -> x.hurries(task), -1);
        }
        Alike.refused("leaves() a second time", () -> {
            FairSlots x = Check.made(1, "1/2;1/3");
            x.leaves(1);
            return x;
        }, x -> x.leaves(1), -1);
        Alike.refused("leaves() too early", () -> {
            FairSlots x = Check.made(1, "1/2;1/3");
            x.slot();
            return x;
        }, x -> x.leaves(0), -3);
    }

    /** It is there no more: how many are there then. */
    private static void leavesToTheLast() {
        FairSlots x = Check.made(1, "1/12;1/12;1/12;1/12;1/12;1/12;1/12;1/12");
        for (int left = 7; left >= 0; left--) {
            Check.due("leaves(" + left + ")", x.leaves(left), left);
            Check.noTask("it is there no more", x, left, 0);
        }
        Check.due("TASKS", x.count(0), 0);
        x.use();
        Check.row("USE of none", x, 0, 1, 1, 1);
    }

    /** Promise 13: A TASK becomes EARLY, or is no more: 1 if it is then, else 0. */
    private static void hurriesToAndFro() {
        FairSlots x = Check.made(1, "1/12;1/12;1/12;1/12;1/12;1/12;1/12;1/12e");
        Check.due("hurries(0)", x.hurries(0), 1);
        Check.due("hurries(0)", x.hurries(0), 0);
        Check.due("hurries(7)", x.hurries(7), 0);
        Check.due("hurries(7)", x.hurries(7), 1);
        Check.due("EARLY of 0", x.task(0, 3), 0);
        Check.due("EARLY of 7", x.task(7, 3), 1);
        Check.due("EARLY of 6", x.task(6, 3), 0);
        Check.due("what can be undone", x.count(8), 5);
    }

    /** NONE: none such. */
    private static void hurriesOfNoneSuch() {
        Alike.refused("hurries() of one that left", () -> {
            FairSlots x = Check.made(1, "1/2;1/3");
            x.leaves(0);
            return x;
        }, x -> x.hurries(0), -1);
        Alike.refused("hurries() of no TASKS", FairSlots::new, x -> x.hurries(0), -1);
    }

    private static void shift(FairSlots x, String text, int done, int stopped, int slot) {
        Check.due("shift() of " + text, Check.shift(x, text), done);
        Check.row("shift() of " + text, x, stopped, slot);
        Check.due("SLOT behind " + text, x.count(2), slot);
        Check.due("signs behind " + text, x.count(10), 0);
    }

    /** Promise 14: THE TEXT tells A SHIFT (an empty one: nothing). */
    private static void shiftOfNothing() {
        FairSlots x = Check.made(1, "1/2");
        shift(x, "", 0, 0, 0);
        Check.due("what can be undone", x.count(8), 1);
        x.slots(7);
        shift(x, "", 0, 0, 7);
    }

    /** * (slot()), n and two digits (slots()), p and a digit, l and a digit, h and a digit. */
    private static void shiftOfEachAct() {
        sameAs("*", x -> x.slot());
        sameAs("n00", x -> x.slots(0));
        sameAs("n07", x -> x.slots(7));
        sameAs("n10", x -> x.slots(10));
        sameAs("n60", x -> x.slots(60));
        sameAs("p3", x -> x.processors(3));
        sameAs("l5", x -> x.leaves(5));
        sameAs("l7", x -> x.leaves(7));
        sameAs("h0", x -> x.hurries(0));
        sameAs("h7", x -> x.hurries(7));
    }

    /** Eight TASKS, of which none of the last three was run. */
    private static FairSlots full() {
        FairSlots x = Alike.rich();
        Check.joins(x, "1/12;1/12;1/12");
        return x;
    }

    private static void sameAs(String act, Alike.Call call) {
        Alike.same("shift() of " + act, EdgeSlotsTest::full, x -> Check.shift(x, act), call);
        FairSlots x = full();
        Check.due("shift() of " + act, Check.shift(x, act), 1);
        Check.row("shift() of " + act, x, 0, x.count(2));
    }

    /** .. till one can't be (it answers below 0): how many were done; the ROW: 1 if one could not be. */
    private static void shiftTillOneCannotBe() {
        String[] cannot = {"n61", "n99", "p0", "p5", "p9", "p2", "p1", "l8", "l9", "l2", "l0", "h8", "h9", "h2"};
        for (String act : cannot) {
            FairSlots x = Check.made(2, "1/1;1/12");
            x.slots(1);
            x.hurries(1);
            x.processors(3);
            x.processors(2);
            // 0 may leave in each SLOT, 1 not ahead of 12.
            String text = act.equals("l0") ? "l1" : act;
            shift(x, text, 0, 1, 1);
            Check.due("nothing to undo of " + text, x.count(8), 6);
            shift(x, "*" + text, 1, 1, 2);
            shift(x, text + "*", 0, 1, 2);
            shift(x, "n03h1" + text + "**", 2, 1, 5);
            Check.due("EARLY", x.task(1, 3), 0);
            Check.due("two to undo of " + text, x.count(8), 8);
        }
        FairSlots x = Check.made(2, "1/1;1/12");
        shift(x, "n60n60n60", 3, 0, 180);
        shift(x, "p3p4p2", 3, 0, 180);
        shift(x, "p2", 0, 1, 180);
        shift(x, "l0l1p1p2*", 5, 0, 181);
    }

    private static void shiftStopsAt(String text, int place) {
        Alike.refused("shift() of " + text, Alike::rich, x -> Check.shift(x, text), -1 - place);
    }

    /** -1 - p: .. (its end, if it ends too early ..); nothing is done then. */
    private static void shiftThatEndsTooEarly() {
        shiftStopsAt("n", 1);
        shiftStopsAt("n0", 2);
        shiftStopsAt("p", 1);
        shiftStopsAt("l", 1);
        shiftStopsAt("h", 1);
        shiftStopsAt("***n", 4);
        shiftStopsAt("*h2n6", 5);
        shiftStopsAt("n05p3l", 6);
    }

    /** -1 - p: the sign at p can't stand there. */
    private static void shiftThatCannotStand() {
        for (String sign : new String[] {"x", "0", "9", " ", ";", "N", "P", "L", "H", "\u00e9", "\u0000", "+", "o"}) {
            shiftStopsAt(sign, 0);
            shiftStopsAt("*" + sign, 1);
            shiftStopsAt("n05" + sign, 3);
            shiftStopsAt("h2" + sign + "*", 2);
        }
        for (String sign : new String[] {"x", "*", "n", "p", ":", "/", " "}) {
            shiftStopsAt("n" + sign, 1);
            shiftStopsAt("n0" + sign, 2);
            shiftStopsAt("p" + sign, 1);
            shiftStopsAt("*l" + sign, 2);
            shiftStopsAt("h" + sign + "0", 1);
        }
    }

    /** .. 60, if it has more and the first 60 could go on or end. */
    private static void shiftOfSixtySigns() {
        FairSlots x = new FairSlots();
        shift(x, SIXTY, 60, 0, 60);
        shift(x, SIXTY.substring(1), 59, 0, 119);
        shift(x, SIXTY.substring(3) + "n60", 58, 0, 236);
        // The first 60 could end.
        shiftStopsAt(SIXTY + "*", 60);
        shiftStopsAt(SIXTY + "x", 60);
        shiftStopsAt(SIXTY + "*".repeat(20), 60);
        // The first 60 could go on.
        shiftStopsAt(SIXTY.substring(1) + "p3", 60);
        shiftStopsAt(SIXTY.substring(1) + "px", 60);
        shiftStopsAt(SIXTY.substring(1) + "n60", 60);
        shiftStopsAt(SIXTY.substring(2) + "n60", 60);
        shiftStopsAt(SIXTY.substring(2) + "n6x", 60);
        // They could not.
        shiftStopsAt(SIXTY.substring(1) + "x*", 59);
        shiftStopsAt(SIXTY.substring(2) + "nx0", 59);
        shiftStopsAt("x" + SIXTY, 0);
        // Sixty that end too early.
        shiftStopsAt(SIXTY.substring(1) + "n", 60);
        shiftStopsAt(SIXTY.substring(2) + "n6", 60);
        shiftStopsAt(SIXTY.substring(2) + "p", 59);
    }

    private static void undone(String what, Alike.Call call) {
        Alike.question("undo() of " + what, EdgeSlotsTest::full, x -> {
            int before = x.count(8);
            long answer = call.on(x);
            Check.due(what + " is done", answer >= 0, true);
            Check.due("what can be undone behind " + what, x.count(8), before + 1);
            return x.undo();
        });
        FairSlots x = full();
        int before = x.count(8);
        call.on(x);
        Check.due("undo() of " + what, x.undo(), before);
    }

    /** Promise 15: The latest joins(), slot(), slots(), processors(), leaves(), hurries(), shift(). */
    private static void undoOfEachCall() {
        undone("slot()", x -> x.slot());
        undone("slots()", x -> x.slots(60));
        undone("processors()", x -> x.processors(3));
        undone("leaves()", x -> x.leaves(6));
        undone("hurries()", x -> x.hurries(0));
        undone("shift()", x -> Check.shift(x, "*n07h3l5p3**"));
        undone("shift() that stops", x -> Check.shift(x, "*h0l0"));
        Alike.question("undo() of joins()", Alike::rich, x -> {
            Check.due("joins()", Check.joins(x, "1/12;1/12e;1/12"), 3);
            return x.undo();
        });
    }

    /** .. (of 12 that are kept, the latest ones ..). */
    private static void undoOfTwelve() {
        FairSlots x = new FairSlots();
        for (int k = 1; k <= 12; k++) {
            x.slots(k);
            Check.due("what can be undone", x.count(8), k);
        }
        for (int k = 11; k >= 0; k--) {
            Check.due("undo()", x.undo(), k);
            Check.due("SLOT", x.count(2), k * (k + 1) / 2);
        }
        Check.due("undo() of none", x.undo(), -1);
        for (int k = 1; k <= 13; k++) {
            x.slots(k);
        }
        Check.due("12 of 13", x.count(8), 12);
        for (int k = 11; k >= 0; k--) {
            Check.due("undo()", x.undo(), k);
        }
        Check.due("SLOT, the first one is left", x.count(2), 1);
        Check.due("undo() of none", x.undo(), -1);
        // Some more, and between them some that are undone.
        for (int k = 0; k < 30; k++) {
            x.slots(2);
            x.slots(1);
            x.undo();
        }
        Check.due("11 of many", x.count(8), 11);
        x.hurries(0);
        x.slot();
        Check.due("12 of many", x.count(8), 12);
        Check.due("undo()", x.undo(), 11);
        Check.due("undo()", x.undo(), 10);
        Check.due("SLOT", x.count(2), 59);
    }

    private static void notToBeUndone(String what, Alike.Call call) {
        FairSlots x = full();
        int before = x.count(8);
        call.on(x);
        Check.due("what can be undone behind " + what, x.count(8), before);
    }

    /** .. such as were done, of joins() those by which somebody joined. */
    private static void undoOfSuchAsWereDone() {
        notToBeUndone("joins() of nothing", x -> x.joins());
        notToBeUndone("joins() of x", x -> Check.joins(x, "x"));
        notToBeUndone("joins() of one too many", x -> Check.joins(x, "1/12"));
        notToBeUndone("joins() above PROCESSORS", x -> {
            x.leaves(5);
            x.leaves(6);
            x.undo();
            x.undo();
            return Check.joins(x, "1/1");
        });
        notToBeUndone("slots(61)", x -> x.slots(61));
        notToBeUndone("processors(4)", x -> x.processors(4));
        notToBeUndone("processors(2)", x -> x.processors(2));
        notToBeUndone("processors(5)", x -> x.processors(5));
        notToBeUndone("leaves(8)", x -> x.leaves(8));
        notToBeUndone("leaves(3)", x -> x.leaves(3));
        notToBeUndone("hurries(8)", x -> x.hurries(8));
        notToBeUndone("shift() of nothing", x -> x.shift());
        notToBeUndone("shift() of x", x -> Check.shift(x, "x"));
        notToBeUndone("ties()", x -> x.ties());
        notToBeUndone("sheet()", x -> x.sheet(2, 8, 1, 0));
        notToBeUndone("years()", x -> x.years(1, 60));
        notToBeUndone("law()", x -> x.law());
        notToBeUndone("keep()", x -> x.keep(0) ? 1 : 0);
        notToBeUndone("heard()", x -> x.heard(0, 1));
    }

    /** .. slots(0), too. */
    private static void undoOfNoSlots() {
        FairSlots x = new FairSlots();
        x.slots(0);
        Check.due("what can be undone", x.count(8), 1);
        Check.due("undo()", x.undo(), 0);
        Check.due("undo() of none", x.undo(), -1);
        x.slot();
        x.slots(0);
        Check.due("undo() of slots(0) alone", x.undo(), 1);
        Check.due("SLOT", x.count(2), 1);
    }

    /** .. shift() of which one ACT was done, as one. */
    private static void undoOfShifts() {
        FairSlots x = Check.made(1, "1/2");
        Check.shift(x, "p1*");
        Check.due("none was done", x.count(8), 1);
        Check.shift(x, "*p1*");
        Check.due("one was done", x.count(8), 2);
        Check.shift(x, "n00");
        Check.due("one of no SLOTS was done", x.count(8), 3);
        Check.shift(x, "*h0p2n60");
        Check.due("four were done", x.count(8), 4);
        Check.due("undo() of four", x.undo(), 3);
        Check.due("SLOT", x.count(2), 1);
        Check.due("EARLY", x.task(0, 3), 0);
        Check.due("PROCESSORS", x.count(1), 1);
        Check.due("undo() of n00", x.undo(), 2);
        Check.due("SLOT", x.count(2), 1);
        Check.due("undo() of one", x.undo(), 1);
        Check.due("SLOT", x.count(2), 0);
    }

    /** .. (all but TIES, what was heard or seen, is as ahead of it). */
    private static void undoLeavesTiesAndWhatWasHeard() {
        FairSlots x = Check.made(1, "1/2;1/3");
        x.heard(0, 2);
        x.saw(1, 0);
        x.slot();
        Check.ties(x, "wr");
        x.heard(0, 2);
        x.saw(1, 0);
        Check.due("undo()", x.undo(), 1);
        Check.due("TIES", x.count(4), 2);
        Check.due("heard", x.count(6), 2);
        Check.due("seen", x.count(7), 2);
        x.slot();
        x.forget();
        x.denies();
        x.undo();
        Check.due("heard no more", x.count(6), 0);
        Check.due("seen no more", x.count(7), 0);
    }

    /** Refused: none. */
    private static void undoOfNone() {
        Alike.refused("undo() of a new object", FairSlots::new, x -> x.undo(), -1);
        Alike.refused("undo() when all is undone", () -> {
            FairSlots x = Alike.rich();
            for (int k = 0; k < 7; k++) {
                x.undo();
            }
            return x;
        }, x -> x.undo(), -1);
        FairSlots x = Alike.rich();
        for (int left = 6; left >= 0; left--) {
            Check.due("undo()", x.undo(), left);
        }
        Check.due("TASKS", x.count(0), 0);
        Check.due("PROCESSORS", x.count(1), 1);
        Check.due("undo() of one too many", x.undo(), -1);
    }

    /** (again() forgets them, if it is not refused.) */
    private static void undoBehindAgain() {
        FairSlots x = Alike.rich();
        Check.due("again(1), nothing kept", x.again(1), false);
        Check.due("again(2)", x.again(2), false);
        Check.due("what can be undone", x.count(8), 7);
        Check.due("undo()", x.undo(), 6);
        Check.due("again(0)", x.again(0), true);
        Check.due("what can be undone", x.count(8), 0);
        Check.due("undo()", x.undo(), -1);
        x.slots(3);
        Check.due("what can be undone", x.count(8), 1);
        Check.due("undo()", x.undo(), 0);
        Check.due("SLOT", x.count(2), 3);
    }
}
