/** The boundary cases that promises 28 to 31 name, one test a sentence, which stands ahead of it. */
public final class EdgeFlowTest {
    private static final int[] FAR = {Integer.MIN_VALUE, Integer.MAX_VALUE};

    public static void main(String[] args) {
        flowOfNone();
        flowAboveSlot();
        flowNotAboveSlotAndN();
        flowFromTheNextOnesOn();
        flowOfAsManyAsThereAreProcessors();
        flowAheadOfDeadline();
        flowOfThoseThatGiveWay();
        flowOfEachOrder();
        flowOfDifferentSlots();
        flowOfAnotherN();
        waitsToTheLastInTime();
        waitsTwelveAtMost();
        waitsOfTheNext60();
        waitsNotEvenByNone();
        waitsByEachFewer();
        waitsOfNoneSuch();
        roomInLowestTerms();
        roomOfWhatIsLeft();
        roomOfNone();
        roomWhenAllAreThere();
        fewestOfNone();
        fewestOfWholes();
        fewestOfTheGreatest();
        Check.finish("EdgeFlowTest");
    }

    private static void flow(FairSlots x, int n, int run, int parts) {
        String what = "flow(" + n + ") in SLOT " + x.count(2);
        Check.due(what, x.flow(n), run);
        Check.row(what, x, parts);
    }

    /** Promise 28: .. how many; the ROW: how many there are. */
    private static void flowOfNone() {
        FairSlots x = new FairSlots();
        flow(x, 1, 0, 0);
        flow(x, 8, 0, 0);
        x = Check.made(1, "1/12");
        flow(x, 8, 0, 0);
        // As many as can be.
        flow(Check.made(4, "1/1;1/1;1/1;1/1"), 8, 32, 32);
        flow(Check.made(4, "1/2;1/2;1/2;1/2;1/2;1/2;1/2;1/2"), 8, 32, 32);
        flow(Check.made(2, "1/12;1/12;1/12;1/12;1/12;1/12;1/12;1/1"), 8, 8, 8);
        flow(Check.made(1, "1/1e"), 1, 1, 1);
        flow(Check.made(1, "1/1e"), 8, 8, 8);
    }

    /** PARTS .. whose DEADLINE is above SLOT. */
    private static void flowAboveSlot() {
        // PART 1 of TASK 1 has DEADLINE 8 and waits.
        flow(Alike.held(8, 0, 7), 1, 1, 1);
        flow(Alike.held(8, 0, 8), 1, 0, 0);
        flow(Alike.held(8, 0, 8), 7, 0, 0);
        flow(Alike.held(2, 0, 1), 3, 2, 2);
        flow(Alike.held(2, 0, 2), 2, 1, 1);
        flow(Alike.held(2, 0, 60), 8, 4, 4);
        flow(Alike.held(2, 0, 59), 8, 4, 4);
        // Of 1 by 1, which waits for both others, PART t and 1 is the first that is not past in SLOT t.
        FairSlots x = Check.made(2, "1/12e;1/12e;1/1");
        Check.ties(x, "");
        for (int t = 0; t < 4; t++) {
            flow(x, 1, 1, 1);
            flow(x, 8, 8, 8);
            x.slot();
        }
        Check.due("DONE of 1/1", x.task(2, 4), 0);
    }

    /** .. but not above SLOT and n (1 .. 8). */
    private static void flowNotAboveSlotAndN() {
        FairSlots x = Check.made(1, "1/8");
        flow(x, 7, 0, 0);
        flow(x, 8, 1, 1);
        // DEADLINES 2, 4, 5, 7, 8 of 5 by 8.
        x = Check.made(1, "5/8");
        int[] due = {0, 1, 1, 2, 3, 3, 4, 5};
        for (int n = 1; n <= 8; n++) {
            flow(x, n, due[n - 1], due[n - 1]);
        }
        x = Check.made(1, "1/1");
        for (int n = 1; n <= 8; n++) {
            flow(x, n, n, n);
        }
        x.slots(60);
        flow(x, 8, 8, 8);
        x = new FairSlots();
        x.slots(5);
        Check.joins(x, "1/4");
        flow(x, 3, 0, 0);
        flow(x, 4, 1, 1);
        flow(x, 8, 2, 2);
    }

    /** PARTS, from the next ones on. */
    private static void flowFromTheNextOnesOn() {
        FairSlots x = Check.made(1, "1/4");
        flow(x, 4, 1, 1);
        x.slot();
        flow(x, 6, 0, 0);
        flow(x, 7, 1, 1);
        // An EARLY one has run ahead: in SLOT 2 PART 3 is next, with RELEASE 8 and DEADLINE 12.
        x = Check.made(1, "1/4e");
        flow(x, 8, 2, 2);
        x.slots(2);
        flow(x, 8, 0, 0);
        x.hurries(0);
        x.slots(2);
        flow(x, 7, 0, 0);
        flow(x, 8, 1, 1);
    }

    /** .. in each SLOT no more than there are PROCESSORS. */
    private static void flowOfAsManyAsThereAreProcessors() {
        for (int processors = 1; processors <= 4; processors++) {
            FairSlots x = Check.made(1, "1/12e;1/5;1/5;1/5;1/5");
            Check.ties(x, "");
            x.slots(4);
            if (processors > 1) {
                x.processors(processors);
            }
            flow(x, 1, processors, 4);
        }
        // Two SLOTS are left, for two of four; the next ones have DEADLINE 10.
        FairSlots x = Check.made(1, "1/12e;1/5;1/5;1/5;1/5");
        Check.ties(x, "");
        x.slots(3);
        flow(x, 1, 0, 0);
        flow(x, 2, 2, 4);
        flow(x, 6, 2, 4);
        flow(x, 7, 6, 8);
    }

    /** .. each in one that is not ahead of its RELEASE, and ahead of its DEADLINE. */
    private static void flowAheadOfDeadline() {
        // In SLOT 3 PARTS with DEADLINE 4 and 5 wait: one in SLOT 3, one in SLOT 4.
        FairSlots x = Check.made(1, "1/12e;1/4;1/5");
        Check.ties(x, "");
        x.slots(3);
        flow(x, 1, 1, 1);
        flow(x, 2, 2, 2);
        // With a second one of DEADLINE 4 one of three is late, whatever comes behind it.
        x = Check.made(1, "1/12e;1/4;1/5;1/4");
        Check.ties(x, "");
        x.slots(3);
        flow(x, 1, 1, 2);
        flow(x, 2, 2, 3);
        flow(x, 5, 4, 5);
        flow(x, 7, 5, 6);
    }

    /** .. at most: whichever TASK comes first, each gives way to one that is more in a hurry. */
    private static void flowOfThoseThatGiveWay() {
        // In SLOT 3 of those that wait DEADLINES are 4 and 5.
        for (int one = 1; one <= 7; one++) {
            for (int other = 1; other <= 7; other++) {
                if (one != other) {
                    FairSlots x = waitingTill3(linesWith(one, "1/4", other, "1/5"));
                    flow(x, 1, 1, 1);
                    flow(x, 2, 2, 2);
                    flow(x, 4, 2, 2);
                    flow(x, 5, 3, 3);
                }
            }
        }
        // By w TASK 2 has the PROCESSOR; in SLOT 2 of TASKS 0 and 1 DEADLINES are 4 and 3.
        FairSlots x = Check.made(1, "1/4;1/3;5/12e");
        Check.ties(x, "w");
        x.slots(2);
        flow(x, 1, 1, 1);
        flow(x, 2, 2, 2);
        flow(x, 4, 3, 3);
    }

    /** TASK 0 has the PROCESSOR, the others wait. */
    private static FairSlots waitingTill3(String others) {
        FairSlots x = Check.made(1, "1/12e;" + others);
        Check.ties(x, "");
        x.slots(3);
        return x;
    }

    /** LINES for TASKS 1 to 7: two that are told, the others 1/12. */
    private static String linesWith(int one, String line, int other, String otherLine) {
        StringBuilder s = new StringBuilder();
        for (int task = 1; task <= 7; task++) {
            s.append(task == 1 ? "" : ";").append(task == one ? line : task == other ? otherLine : "1/12");
        }
        return s.toString();
    }

    /** .. one behind the other, in whatever order they stand. */
    private static void flowOfEachOrder() {
        // DEADLINES 4 to 8, and 8 of PART 2 of 1 by 4: six in SLOTS 3 to 7.
        eachOrder("", 0);
    }

    private static void eachOrder(String lines, int used) {
        if (used == 0b11111) {
            FairSlots x = waitingTill3(lines);
            for (int n = 1; n <= 4; n++) {
                flow(x, n, n, n);
            }
            flow(x, 5, 5, 6);
            return;
        }
        for (int p = 4; p <= 8; p++) {
            if ((used >> (p - 4) & 1) == 0) {
                eachOrder((lines.isEmpty() ? "" : lines + ";") + "1/" + p, used | 1 << (p - 4));
            }
        }
    }

    /** .. PARTS of a TASK in different SLOTS. */
    private static void flowOfDifferentSlots() {
        // In SLOT 1 PARTS 1 and 2 of 11 by 12 have SLOT 1 and SLOTS 1 and 2.
        FairSlots x = Check.made(1, "1/12e;11/12");
        Check.ties(x, "");
        x.slot();
        Check.due("DONE of 11/12", x.task(1, 4), 0);
        x.processors(4);
        flow(x, 1, 1, 1);
        flow(x, 2, 2, 2);
        flow(x, 8, 8, 8);
    }

    /** NONE: another n. */
    private static void flowOfAnotherN() {
        for (int n : new int[] {0, 9, -1, 60, FAR[0], FAR[1]}) {
            Alike.refused("flow(" + n + ")", Alike::rich, x -> x.flow(n), -1);
        }
    }

    private static void waits(FairSlots x, int task, int slots) {
        Check.due("waits(" + task + ") in SLOT " + x.count(2), x.waits(task), slots);
    }

    /** Promise 29: How many SLOTS (0 .. 12) the next PART of a TASK could be kept from running. */
    private static void waitsToTheLastInTime() {
        for (int p = 1; p <= 12; p++) {
            waits(Check.made(1, "1/" + p), 0, p - 1);
        }
        waits(Check.made(1, "2/3"), 0, 1);
        waits(Check.made(1, "2/5"), 0, 2);
        FairSlots x = Check.made(1, "1/12");
        x.slots(0);
        waits(x, 0, 11);
        // With another one that takes a SLOT.
        waits(Check.made(1, "1/2;1/2"), 0, 1);
        waits(Check.made(1, "1/2;1/3;1/6"), 2, 5);
        waits(Check.made(1, "1/1"), 0, 0);
    }

    /** .. 12 at most. */
    private static void waitsTwelveAtMost() {
        FairSlots x = Check.made(1, "1/12");
        x.slot();
        // PART 2 could be run in SLOT 23; from SLOT 11 on it is just 12 that it could wait.
        waits(x, 0, 12);
        x.slots(10);
        waits(x, 0, 12);
        x.slot();
        waits(x, 0, 11);
        x = Check.made(1, "1/12e");
        x.slots(60);
        waits(x, 0, 12);
    }

    /** .. so that no MISSES come in the next 60 SLOTS. */
    private static void waitsOfTheNext60() {
        // TASK 1 misses in SLOT 111: in SLOT 51 it is behind the next 60, in SLOT 52 the last one of them.
        waits(Alike.held(8, 13, 38), 0, 12);
        waits(Alike.held(8, 13, 38), 1, 12);
        waits(Alike.held(8, 13, 39), 0, -2);
        waits(Alike.held(8, 13, 39), 1, -2);
        waits(Alike.held(8, 13, 98), 0, -2);
        waits(Alike.held(8, 13, 99), 1, 12);
    }

    /** -2: not even by 0. */
    private static void waitsNotEvenByNone() {
        Alike.refused("waits() of one that misses", () -> Alike.held(2, 0, 0), x -> x.waits(1), -2);
        Alike.refused("waits() of one beside it", () -> Alike.held(2, 0, 0), x -> x.waits(0), -2);
        // In SLOT 2 it is the last one that is in time.
        FairSlots x = Alike.held(3, 0, 2);
        Check.ties(x, "d");
        waits(x, 1, 0);
    }

    /** .. the most of these, by each fewer of which it is so, too. */
    private static void waitsByEachFewer() {
        // PART 1 has DEADLINE 3, which is past, and is missed no more; PART 2 has 6: it is missed if PART 1
        // is run in SLOT 5, but neither if that is run ahead of it nor if it is run behind it. So it is
        // with PART 3, which has 9, if PART 1 is run in SLOT 7, and with PART 4, if it is run in SLOT 9.
        int[] due = {1, 0, -2, 0, -2, 0, -2};
        for (int k = 0; k < due.length; k++) {
            FairSlots x = Alike.held(3, 0, 3 + k);
            Check.ties(x, "d");
            waits(x, 1, due[k]);
        }
    }

    /** NONE: none such. */
    private static void waitsOfNoneSuch() {
        for (int task : new int[] {-1, 5, 7, 8, FAR[0], FAR[1]}) {
            Alike.refused("waits(" + task + ")", Alike::rich, x -> x.waits(task), -1);
        }
        Alike.refused("waits() of one that left", () -> {
            FairSlots x = Check.made(1, "1/2;1/3");
            x.leaves(0);
            return x;
        }, x -> x.waits(0), -1);
    }

    private static void room(FairSlots x, long e, long p) {
        x.use();
        Check.due("room()", x.room(), 0);
        Check.row("room()", x, e, p);
        // It can join, and no greater one can.
        Check.due("joins() of what room() tells", Check.joins(x, e + "/" + p), 1);
    }

    /** Promise 30: The greatest WEIGHT that could join (E, P; P 1 .. 12, in lowest terms). */
    private static void roomInLowestTerms() {
        room(new FairSlots(), 1, 1);
        room(Check.made(1, "5/12;1/12"), 1, 2);
        room(Check.made(1, "6/12"), 1, 2);
        room(Check.made(1, "4/12"), 2, 3);
        room(Check.made(1, "2/12"), 5, 6);
        room(Check.made(1, "1/12"), 11, 12);
        room(Check.made(1, "11/12"), 1, 12);
        room(Check.made(1, "2/11"), 9, 11);
    }

    /** .. of what is left of PROCESSORS. */
    private static void roomOfWhatIsLeft() {
        for (int p = 1; p <= 12; p++) {
            for (int e = 1; e < p; e++) {
                FairSlots x = Check.made(1, e + "/" + p);
                Check.due("room() beside " + e + "/" + p, x.room(), 0);
                Check.due("it is all that is left", x.row(0) * p == (p - e) * x.row(1), true);
            }
        }
        room(Check.made(2, "1/12"), 1, 1);
        room(Check.made(2, "1/1"), 1, 1);
        room(Check.made(2, "1/1;1/12"), 11, 12);
        room(Check.made(4, "1/1;1/1;1/1;11/12"), 1, 12);
        // 1 by 27720 less is left than what would make these 2 in all with 1/11, 1/8, 3/7, 5/9 or 4/5.
        room(Check.made(2, "1/8;3/7;5/9;4/5"), 1, 12);
        room(Check.made(2, "1/11;3/7;5/9;4/5"), 1, 9);
        room(Check.made(2, "1/11;1/8;5/9;4/5"), 5, 12);
        room(Check.made(2, "1/11;1/8;3/7;4/5"), 6, 11);
        room(Check.made(2, "1/11;1/8;3/7;5/9"), 7, 9);
        // 1 by 27720 more is left.
        room(Check.made(3, "4/9;4/7;7/8;10/11"), 1, 5);
        // 23 by 35 is left, .657..: 5 by 8 is .625, 7 by 11 .636, 2 by 3 too much.
        room(Check.made(1, "1/5;1/7"), 7, 11);
        room(Check.made(1, "10/11"), 1, 11);
    }

    /** -2: none. */
    private static void roomOfNone() {
        Alike.refused("nothing is left", () -> Check.made(1, "1/1"), x -> x.room(), -2);
        Alike.refused("less than 1 by 12 is left", () -> Check.made(1, "10/11;1/12"), x -> x.room(), -2);
        Alike.refused("1/27720 is left", () -> Check.made(3, "1/5;4/9;4/7;7/8;10/11"), x -> x.room(), -2);
        Alike.refused("nothing of four is left", () -> Check.made(4, "1/1;1/1;1/1;1/1"), x -> x.room(), -2);
        room(Check.made(1, "1/2;5/12"), 1, 12);
    }

    /** .. (all TASKS are there, too). */
    private static void roomWhenAllAreThere() {
        String seven = "1/12;1/12;1/12;1/12;1/12;1/12;1/12";
        Alike.refused("all are there", () -> Check.made(1, seven + ";1/12"), x -> x.room(), -2);
        Alike.refused("all are there, four PROCESSORS", () -> Check.made(4, seven + ";1/12"), x -> x.room(), -2);
        FairSlots x = Check.made(1, seven + ";1/12");
        x.leaves(3);
        room(x, 5, 12);
        room(Check.made(1, seven), 5, 12);
    }

    private static void fewest(FairSlots x, int processors, int tasks) {
        Check.due("fewest()", x.fewest(), processors);
        Check.row("fewest()", x, tasks);
    }

    /** Promise 31: how many (0: no TASK); the ROW: .. (0: no TASK). */
    private static void fewestOfNone() {
        fewest(new FairSlots(), 0, 0);
        FairSlots x = Check.made(4, "1/12");
        fewest(x, 1, 1);
        x.leaves(0);
        fewest(x, 0, 0);
    }

    /** The fewest PROCESSORS by which USE is not above them. */
    private static void fewestOfWholes() {
        fewest(Check.made(2, "1/1"), 1, 1);
        fewest(Check.made(2, "1/2;1/3;1/6"), 1, 1);
        fewest(Check.made(2, "10/11;1/12"), 1, 1);
        fewest(Check.made(2, "1/11;11/12"), 2, 2);
        fewest(Check.made(2, "1/1;1/1"), 2, 2);
        fewest(Check.made(4, "1/1;1/1;1/12"), 3, 3);
        fewest(Check.made(4, "1/1;1/1;1/1"), 3, 3);
        fewest(Check.made(4, "1/11;1/8;3/7;5/9;4/5"), 3, 5);
        fewest(Check.made(4, "1/5;4/9;4/7;7/8;10/11"), 3, 3);
        fewest(Check.made(4, "1/1;1/1;1/1;1/12"), 4, 4);
        fewest(Check.made(4, "1/1;1/1;1/1;1/1"), 4, 4);
    }

    /** .. how many TASKS, of the greatest WEIGHTS, at the fewest, have together more than so many less 1. */
    private static void fewestOfTheGreatest() {
        // 1 is not more than 1: a second one is asked for.
        fewest(Check.made(2, "1/12;1/1"), 2, 2);
        fewest(Check.made(2, "1/2;1/2;1/12"), 2, 3);
        fewest(Check.made(2, "1/12;1/2;7/12"), 2, 2);
        fewest(Check.made(2, "1/6;1/6;1/6;1/6;1/6;1/6;1/12"), 2, 7);
        fewest(Check.made(2, "1/6;1/6;1/6;1/6;1/6;1/6;1/12;2/12"), 2, 7);
        // The greatest five have 1 by 27720 more than 2, the sixth is not asked for.
        fewest(Check.made(3, "1/11;1/8;3/7;5/9;4/5;1/12"), 3, 5);
        // All eight; and TASK 7 as the greatest one.
        fewest(Check.made(2, "1/7;1/7;1/7;1/7;1/7;1/7;1/7;1/12"), 2, 8);
        fewest(Check.made(2, "1/12;1/12;1/12;1/12;1/12;1/12;1/12;1/1"), 2, 2);
        // The greatest ones stand last.
        fewest(Check.made(3, "1/12;1/12;1/12;1/6;11/12;11/12"), 3, 4);
    }
}
