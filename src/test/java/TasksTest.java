/** Promises 1 to 8: a new object, THE TEXT, TASKS, TIES, PARTS, sheets. */
public final class TasksTest {
    public static void main(String[] args) {
        promise1();
        promise2();
        promise3();
        promise4();
        joinsThatCannotStand();
        joinsThatAreTooLong();
        joinsAmongOthers();
        promise5();
        promise6();
        promise7();
        promise8();
        sheetsBehindUndo();
        Check.finish("TasksTest");
    }

    private static void promise1() {
        FairSlots x = new FairSlots();
        int[] due = {0, 1, 0, 0, 3, 0, 0, 0, 0, 0, 0};
        for (int what = 0; what < due.length; what++) {
            Check.due("count(" + what + ") of a new object", x.count(what), due[what]);
        }
        Check.due("NONE", FairSlots.NONE, -1);
        // TIES are dbg.
        firstTies("1/3;1/2");
        firstTies("1/2;3/5");
        firstTies("2/3;3/4");
        firstTies("3/11;1/3");
    }

    /** The second one is ahead. */
    private static void firstTies(String lines) {
        FairSlots x = Check.made(2, lines);
        x.order();
        Check.row("order() of " + lines + " by the first TIES", x, 1, 0);
    }

    private static void promise2() {
        FairSlots x = new FairSlots();
        Check.due("sign(1/2;)", x.sign(0x312f323b), 4);
        Check.due("sign(1/3.)", x.sign(0x312f3300), 8);
        Check.due("count(10)", x.count(10), 8);
        x.end(7);
        Check.due("joins() of 1/2;1/3", x.joins(), 2);
        Check.due("P of the second", x.task(1, 1), 3);
        for (int k = 1; k <= 20; k++) {
            Check.due("sign number " + k, x.sign(-1), 4 * k);
        }
        Check.due("sign above 80", x.sign(0), -1);
        Check.due("signs then", x.count(10), 80);
        x.end(77);
        Check.due("sign from 77 on", x.sign(0), -1);
        Check.due("signs still", x.count(10), 77);
        x.end(76);
        Check.due("sign from 76 on", x.sign(0), 80);
        // A byte above 127 is a sign as any other and can't stand.
        x.end(0);
        x.sign(0xb1000000);
        x.end(1);
        Check.due("joins() of a high sign", x.joins(), -1);
    }

    private static void promise3() {
        FairSlots x = new FairSlots();
        Check.due("end(0) of nothing", x.end(0), true);
        Check.due("end(1) of nothing", x.end(1), false);
        x.sign(0x312f3278);
        Check.due("end(-1)", x.end(-1), false);
        Check.due("end(5)", x.end(5), false);
        Check.due("signs still", x.count(10), 4);
        Check.due("end(4)", x.end(4), true);
        Check.due("end(3)", x.end(3), true);
        Check.due("end(4) behind it", x.end(4), false);
        Check.due("signs then", x.count(10), 3);
        Check.due("joins() of 1/2", x.joins(), 1);
        Check.due("end(Integer.MIN_VALUE)", x.end(Integer.MIN_VALUE), false);
    }

    private static void promise4() {
        FairSlots x = new FairSlots();
        Check.due("joins() of nothing", x.joins(), 0);
        Check.due("undone of it", x.count(8), 0);
        Check.due("joins()", Check.joins(x, "1/12;2/9e;10/12"), -100);
        Check.due("TASKS behind -100", x.count(0), 0);
        Check.due("THE TEXT behind -100", x.count(10), 0);
        Check.due("undone of -100", x.count(8), 0);
        Check.due("joins()", Check.joins(x, "1/12;2/9e"), 2);
        Check.due("THE TEXT behind it", x.count(10), 0);
        Check.due("undone", x.count(8), 1);
        Check.due("EARLY of 0", x.task(0, 3), 0);
        Check.due("EARLY of 1", x.task(1, 3), 1);
        Check.due("E of 1", x.task(1, 0), 2);
        x.slots(7);
        Check.due("joins() later", Check.joins(x, "1/10"), 1);
        Check.due("JOINED", x.task(2, 2), 7);
        Check.due("DONE", x.task(2, 4), 0);
        Check.due("the whole", Check.joins(new FairSlots(), "12/12"), 1);
    }

    private static void joinsThatCannotStand() {
        String[] texts = {"x", "0", "0/1", "1", "1/", "1/0", "1/01", "1/13", "3/2", "13/12", "1/2x",
            "1/2;", "1/2e;", "1/2ee", "/2", "1//2", "123/12", "99x", "99/13", "99/12", "3/2x", "1/133",
            "1/123", "1/2;;", "1/2;3/2", "1/2;1/20", "1/2;x", "1/2 ", " 1/2", "1/2E", "10/9;1/1", "1/99",
            "-1/2", "1/1;12/11"};
        int[] places = {0, 0, 0, 1, 2, 2, 2, 2, 0, 0, 3,
            4, 5, 4, 0, 2, 2, 2, 3, 0, 0, 2,
            4, 4, 4, 6, 4, 3, 0, 3, 0, 2,
            0, 4};
        for (int k = 0; k < texts.length; k++) {
            FairSlots x = new FairSlots();
            Check.due("joins() of " + texts[k], Check.joins(x, texts[k]), -1 - places[k]);
            Check.due("TASKS behind " + texts[k], x.count(0), 0);
            Check.due("THE TEXT behind " + texts[k], x.count(10), 0);
            Check.due("undone of " + texts[k], x.count(8), 0);
        }
    }

    private static void joinsThatAreTooLong() {
        String eight = "12/12e;12/12e;12/12e;12/12e;12/12e;12/12e;12/12e;12/12e";
        FairSlots x = new FairSlots();
        Check.due("55 signs", Check.joins(x, eight), -100);
        Check.due("56 signs, the last ;", Check.joins(x, eight + ";"), -56);
        Check.due("56 signs, the last x", Check.joins(x, eight + "x"), -56);
        Check.due("80 signs", Check.joins(x, eight + ";12/12e;12/12e;12/12e;12/"), -56);
        Check.due("56 signs, a bad one ahead", Check.joins(x, "x" + eight), -1);
        Check.due("57 signs, a ninth LINE", Check.joins(x, eight.substring(1) + ";1/"), -56);
        String short9 = "1/12;1/12;1/12;1/12;1/12;1/12;1/12;1/12;1/12";
        Check.due("nine LINES", Check.joins(x, short9), -41);
        Check.due("eight LINES and ;", Check.joins(x, short9.substring(0, 40)), -41);
        Check.due("eight LINES", Check.joins(x, short9.substring(0, 39)), 8);
        Check.due("TASKS", x.count(0), 255);
        Check.due("joins() of nothing, all there", x.joins(), 0);
        Check.due("one more", Check.joins(x, "1/12"), -1);
        Check.due("a bad one more", Check.joins(x, "x"), -1);
    }

    private static void joinsAmongOthers() {
        FairSlots x = Check.made(1, "1/12;1/12;1/12;1/12");
        x.leaves(2);
        x.leaves(0);
        Check.due("TASKS that stayed", x.count(0), 10);
        Check.due("joins() again", Check.joins(x, "1/5;1/6;1/7"), 3);
        Check.due("P of 0", x.task(0, 1), 5);
        Check.due("P of 2", x.task(2, 1), 6);
        Check.due("P of 4", x.task(4, 1), 7);
        Check.due("TASKS", x.count(0), 31);
        x = Check.made(1, "1/2;1/3");
        Check.due("above PROCESSORS", Check.joins(x, "2/11"), -100);
        Check.due("as many as PROCESSORS", Check.joins(x, "2/12"), 1);
        // A bad sign comes ahead of USE.
        Check.due("above and bad", Check.joins(x, "1/1;x"), -5);
    }

    private static void promise5() {
        FairSlots x = new FairSlots();
        String[] texts = {"dbgwr", "", "r", "wg", "x", "dd", "dbd", "dbgwrd", "dbgwrx", "D", "d b"};
        int[] due = {5, 0, 1, 2, -1, -2, -3, -6, -6, -1, -2};
        int letters = 3;
        for (int k = 0; k < texts.length; k++) {
            Check.due("ties() of " + texts[k], Check.ties(x, texts[k]), due[k]);
            letters = due[k] >= 0 ? due[k] : letters;
            Check.due("letters behind " + texts[k], x.count(4), letters);
            Check.due("THE TEXT behind " + texts[k], x.count(10), 0);
        }
        Check.due("undone of ties()", x.count(8), 0);
        byEachLetter();
        tiesThatGoRound();
    }

    private static void byEachLetter() {
        inOrder("d", "1/3;1/2", 1, 0);
        inOrder("", "1/3;1/2", 0, 1);
        inOrder("b", "1/2;2/5", 1, 0);
        inOrder("d", "1/2;2/5", 0, 1);
        inOrder("g", "2/3;3/4", 1, 0);
        inOrder("g", "3/4;2/3", 0, 1);
        // GROUP DEADLINE 3 against 2, but OVERLAP of the first is 0.
        inOrder("g", "1/2;2/3", 0, 1);
        inOrder("gb", "1/2;2/3", 1, 0);
        // One of less than half has GROUP DEADLINE 0.
        inOrder("g", "2/5;2/3", 1, 0);
        inOrder("w", "1/3;1/2", 1, 0);
        inOrder("w", "1/2;2/4", 0, 1);
        inOrder("w", "5/12;3/7", 1, 0);
        inOrder("wd", "2/4;1/2", 0, 1);
        inOrder("db", "1/2;3/5", 1, 0);
        inOrder("bd", "1/3;3/5", 1, 0);
        FairSlots x = Check.made(1, "1/2e;1/3");
        Check.ties(x, "");
        x.slot();
        x.order();
        Check.row("order() by none", x, 0, 1);
        Check.ties(x, "r");
        x.order();
        Check.row("order() by r", x, 1, 0);
    }

    private static void inOrder(String ties, String lines, long first, long second) {
        FairSlots x = Check.made(2, lines);
        Check.ties(x, ties);
        Check.due("order() of " + lines, x.order(), 2);
        Check.row("order() of " + lines + " by " + ties, x, first, second);
    }

    private static void tiesThatGoRound() {
        // By g 2 is ahead of 0, by none 0 of 1 and 1 of 2.
        FairSlots x = Check.made(2, "2/3;1/2;3/4");
        Check.ties(x, "g");
        Check.due("order()", x.order(), 3);
        Check.row("order()", x, 2, 0, 1);
        Check.due("slot()", x.slot(), 5);
    }

    private static void promise6() {
        FairSlots x = Check.made(2, "3/7;11/12e");
        x.slots(2);
        int[][] due = {{3, 7, 0, 0, 1}, {11, 12, 0, 1, 2}};
        for (int task = 0; task < 2; task++) {
            for (int what = 0; what < 5; what++) {
                Check.due("task(" + task + ", " + what + ")", x.task(task, what), due[task][what]);
            }
        }
        Check.noTask("task(2, 0)", x, 2, 0);
        Check.noTask("task(-1, 0)", x, -1, 0);
        Check.noTask("task(8, 0)", x, 8, 0);
        Check.noTask("task(0, 5)", x, 0, 5);
        Check.noTask("task(0, -1)", x, 0, -1);
        Check.noTask("task(MAX, MAX)", x, Integer.MAX_VALUE, Integer.MAX_VALUE);
        FairSlots y = Check.made(1, "1/2;1/3");
        y.leaves(0);
        Check.noTask("task(0, 0) of one that left", y, 0, 0);
    }

    private static void promise7() {
        FairSlots x = new FairSlots();
        x.slots(10);
        Check.joins(x, "8/11");
        int[] release = {0, 1, 2, 4, 5, 6, 8, 9, 11};
        int[] deadline = {2, 3, 5, 6, 7, 9, 10, 11, 13};
        int[] overlap = {1, 1, 1, 1, 1, 1, 1, 0, 1};
        int[] group = {4, 4, 8, 8, 8, 11, 11, 11, 15};
        for (int i = 1; i <= 9; i++) {
            Check.due("RELEASE of " + i, x.part(0, i, 0), 10 + release[i - 1]);
            Check.due("DEADLINE of " + i, x.part(0, i, 1), 10 + deadline[i - 1]);
            Check.due("OVERLAP of " + i, x.part(0, i, 2), overlap[i - 1]);
            Check.due("GROUP DEADLINE of " + i, x.part(0, i, 3), 10 + group[i - 1]);
            Check.due("LENGTH of " + i, x.part(0, i, 4), deadline[i - 1] - release[i - 1]);
        }
        Check.due("RELEASE of 200", x.part(0, 200, 0), 10 + 273);
        Check.due("DEADLINE of 200", x.part(0, 200, 1), 10 + 275);
        Check.due("GROUP DEADLINE of 200", x.part(0, 200, 3), 10 + 275);
        Check.noPart("part(0, 0, 0)", x, 0, 0, 0);
        Check.noPart("part(0, 201, 0)", x, 0, 201, 0);
        Check.noPart("part(0, 1, 5)", x, 0, 1, 5);
        Check.noPart("part(0, 1, -1)", x, 0, 1, -1);
        Check.noPart("part(1, 1, 0)", x, 1, 1, 0);
        Check.noPart("part(-1, 1, 0)", x, -1, 1, 0);
        Check.noPart("part(8, 1, 0)", x, 8, 1, 0);
        groupDeadlinesOfOthers();
    }

    private static void groupDeadlinesOfOthers() {
        FairSlots x = Check.made(4, "1/2;5/11;1/1;6/11");
        Check.due("of a half", x.part(0, 3, 3), 6);
        Check.due("of less than a half", x.part(1, 3, 3), 0);
        Check.due("of a whole", x.part(2, 3, 3), 3);
        // PART 1 is in 0 .. 2, PART 2 in 1 .. 4 with LENGTH 3, so that 3 is the first.
        Check.due("of 6/11", x.part(3, 1, 3), 3);
        Check.due("of 6/11, the second", x.part(3, 2, 3), 5);
    }

    private static void promise8() {
        FairSlots x = Check.made(1, "1/12;1/12;1/12;1/12");
        Check.due("ints 1, 0, -1", x.sheet(2, 3, 1, -1), 1);
        early(x, 1, 0, 0, 0);
        Check.due("ints 1, 2", x.sheet(2, 2, 1, 1), 2);
        early(x, 1, 1, 0, 0);
        Check.due("bytes 128", x.sheet(0, 3, 128, 0), 0);
        early(x, 0, 0, 0, 0);
        Check.due("bytes 127, 128, 129", x.sheet(0, 3, 127, 1), 1);
        early(x, 1, 0, 0, 0);
        Check.due("bytes 256, 257", x.sheet(0, 4, 256, 1), 3);
        early(x, 0, 1, 1, 1);
        Check.due("shorts 32767, 32768", x.sheet(1, 2, 32767, 1), 1);
        Check.due("shorts 128", x.sheet(1, 8, 128, 0), 4);
        Check.due("shorts 65536, 65537", x.sheet(1, 2, 65536, 1), 1);
        early(x, 0, 1, 0, 0);
        Check.due("ints that go round", x.sheet(2, 2, Integer.MAX_VALUE, 1), 1);
        early(x, 1, 0, 0, 0);
        Check.due("n below 0", x.sheet(0, -1, 1, 1), -2);
        Check.due("n below 0", x.sheet(2, Integer.MIN_VALUE, 1, 1), -2);
        Check.due("n above 8", x.sheet(0, 9, 1, 1), -1);
        Check.due("another kind", x.sheet(4, 1, 1, 1), -1);
        Check.due("another kind", x.sheet(-1, -1, 1, 1), -1);
        Check.due("missing, n above 8", x.sheet(3, 9, 1, 1), -1);
        early(x, 1, 0, 0, 0);
        Check.due("missing", x.sheet(3, 4, 1, 0), -3);
        early(x, 0, 0, 0, 0);
        Check.due("missing, n below 0", x.sheet(3, -1, 1, 0), -3);
        Check.due("no entries", x.sheet(1, 0, 1, 1), 0);
        x.leaves(1);
        Check.due("those that are there", x.sheet(2, 2, 5, 0), 2);
        Check.due("EARLY of 0", x.task(0, 3), 1);
        Check.due("EARLY of 2", x.task(2, 3), 1);
        Check.due("EARLY of 3", x.task(3, 3), 0);
        Check.due("of no TASK", new FairSlots().sheet(0, 8, 1, 1), 0);
    }

    private static void early(FairSlots x, int... due) {
        for (int task = 0; task < due.length; task++) {
            Check.due("EARLY of " + task, x.task(task, 3), due[task]);
        }
    }

    private static void sheetsBehindUndo() {
        FairSlots x = Check.made(1, "1/2e;1/3");
        x.slot();
        Check.due("sheet", x.sheet(2, 2, -1, 2), 1);
        Check.due("what can be undone", x.count(8), 2);
        x.undo();
        early(x, 1, 0);
    }
}
