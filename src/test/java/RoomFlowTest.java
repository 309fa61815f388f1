/** Promises 28 to 31: flows, how long a PART could wait, room, the fewest PROCESSORS. */
public final class RoomFlowTest {
    public static void main(String[] args) {
        promise28();
        flowsThatAreLess();
        promise29();
        promise30();
        promise31();
        Check.finish("RoomFlowTest");
    }

    private static void flow(FairSlots x, int n, int most, int parts) {
        Check.due("flow(" + n + ")", x.flow(n), most);
        Check.row("flow(" + n + ")", x, parts);
    }

    private static void promise28() {
        FairSlots x = new FairSlots();
        flow(x, 8, 0, 0);
        Check.due("flow(0)", x.flow(0), -1);
        Check.due("flow(9)", x.flow(9), -1);
        Check.row("the ROW stays", x, 0);
        x = Check.made(1, "1/2;1/3;1/6");
        int[] due = {0, 1, 2, 3, 3, 6, 6, 7};
        for (int n = 1; n <= 8; n++) {
            flow(x, n, due[n - 1], due[n - 1]);
        }
        x.slot();
        // PART 1 of the first was run: DEADLINES 3, 4, 6, 6, 6 are left till 6.
        flow(x, 5, 5, 5);
        x = Check.made(4, "1/1;1/1;1/1;1/1");
        flow(x, 8, 32, 32);
        x = Check.made(2, "2/3;2/3;2/3");
        flow(x, 2, 3, 3);
        flow(x, 3, 6, 6);
    }

    private static void flowsThatAreLess() {
        // The EARLY one takes every SLOT, so that both others are late together.
        FairSlots x = Check.made(1, "1/2e;1/4;1/4");
        Check.ties(x, "");
        x.slots(3);
        flow(x, 1, 1, 2);
        // In SLOT 3 one of two; then both next PARTS, from RELEASE 4 on, and PART 4 of the first.
        flow(x, 5, 4, 5);
        x.slots(1);
        // What is past its DEADLINE does not count.
        flow(x, 3, 0, 0);
        flow(x, 4, 2, 2);
        // Of 3 by 4 the PARTS have SLOTS 1; 1, 2; 2, 3 then: three in three SLOTS.
        x = Check.made(1, "1/4e;3/4");
        Check.ties(x, "");
        x.slot();
        flow(x, 1, 1, 1);
        flow(x, 3, 3, 3);
        // RELEASE keeps a PART from SLOT 3, if it is not EARLY.
        x = Check.made(1, "1/2e;1/2");
        Check.ties(x, "");
        x.slots(3);
        flow(x, 5, 4, 4);
        x.sheet(2, 2, 0, 1);
        flow(x, 5, 4, 4);
    }

    private static void promise29() {
        FairSlots x = Check.made(1, "1/2;1/3;1/6");
        Check.due("waits(0)", x.waits(0), 1);
        Check.due("waits(1)", x.waits(1), 2);
        Check.due("waits(2)", x.waits(2), 5);
        Check.due("waits(3)", x.waits(3), -1);
        Check.due("waits(-1)", x.waits(-1), -1);
        Check.due("waits(8)", x.waits(8), -1);
        x = Check.made(1, "1/12");
        Check.due("waits(0) of one alone", x.waits(0), 11);
        x.slot();
        Check.due("12 at most", x.waits(0), 12);
        x = Check.made(1, "1/1");
        Check.due("not one", x.waits(0), 0);
        x = Check.made(2, "2/3;2/3;2/3");
        Check.due("waits(2)", x.waits(2), 1);
        Check.ties(x, "");
        Check.due("not even by 0", x.waits(0), -2);
        Check.due("none such comes ahead", x.waits(5), -1);
        x = Check.made(3, "2/3;2/3;9/10;3/4");
        Check.ties(x, "dr");
        Check.due("MISSES in the last of 60", x.waits(0), -2);
        x = Check.made(2, "3/7;5/8;7/9");
        Check.ties(x, "g");
        Check.due("MISSES behind 60", x.waits(0) >= 0, true);
    }

    private static void room(FairSlots x, long e, long p) {
        x.use();
        Check.due("room()", x.room(), 0);
        Check.row("room()", x, e, p);
    }

    private static void promise30() {
        room(new FairSlots(), 1, 1);
        room(Check.made(1, "1/2"), 1, 2);
        room(Check.made(1, "1/2;1/3"), 1, 6);
        room(Check.made(1, "11/12"), 1, 12);
        room(Check.made(1, "3/5"), 2, 5);
        room(Check.made(1, "1/5;1/7"), 7, 11);
        room(Check.made(2, "1/12"), 1, 1);
        room(Check.made(2, "1/1;1/12"), 11, 12);
        FairSlots x = Check.made(1, "1/8;5/6");
        x.use();
        Check.due("less than 1 by 12", x.room(), -2);
        Check.row("the ROW stays", x, 23, 24, 1, 24);
        Check.due("none", Check.made(1, "1/1").room(), -2);
        x = Check.made(4, "1/9;1/9;1/9;1/9;1/9;1/9;1/9");
        room(x, 1, 1);
        Check.joins(x, "1/9");
        Check.due("all TASKS are there", x.room(), -2);
    }

    private static void fewest(FairSlots x, int processors, int tasks) {
        Check.due("fewest()", x.fewest(), processors);
        Check.row("fewest()", x, tasks);
    }

    private static void promise31() {
        fewest(new FairSlots(), 0, 0);
        fewest(Check.made(1, "1/2;1/3;1/6"), 1, 1);
        fewest(Check.made(2, "2/3;2/3;2/3"), 2, 2);
        fewest(Check.made(2, "1/12;1/12;11/12;11/12"), 2, 2);
        fewest(Check.made(4, "1/1;1/1;1/1;1/2"), 4, 4);
        fewest(Check.made(4, "1/2;1/1;1/1;1/3"), 3, 3);
        fewest(Check.made(4, "1/12;1/12"), 1, 1);
        fewest(Check.made(2, "1/2;1/4;1/4;1/12"), 2, 4);
        fewest(Check.made(2, "1/4;1/4;1/2;3/4"), 2, 2);
    }
}
