/** The boundary cases that "Terms" 1 and 2 name, one test a sentence, which stands ahead of it. */
public final class EdgeTermsTest {
    public static void main(String[] args) {
        processorsTasksSlot();
        eightTasks();
        weightsFromOneTwelfthToOne();
        leastTaskThatIsNotThere();
        windowsThatAreCut();
        groupDeadlines();
        groupDeadlinesOfLessThanHalf();
        windowsFromJoinedOn();
        readyFromReleaseOn();
        readyIfEarly();
        tiesThatLeadOrNot();
        tiesOfBothOverlaps();
        tiesOfFiveLetters();
        tiesOfTheLastTask();
        tiesThatGoRound();
        asManyAsThereAreProcessors();
        oncePerTask();
        missesInTheSlotAheadOfDeadline();
        missesOfWhatComesNext();
        lagFromJoinedOn();
        fractionsInLowestTerms();
        questionsChangeNothing();
        noneAheadOfOthers();
        refusedCallsOfTasks();
        refusedCallsOfSlots();
        refusedQuestions();
        answersThatTellThereIsNone();
        callsThatDoNotTellOfTheRow();
        textIsEmptiedByWhatReadsIt();
        Check.finish("EdgeTermsTest");
    }

    /** PROCESSORS 1 .. 4 (at first 1). SLOT (at first 0). MISSES (at first 0). TIES (at first dbg). */
    private static void processorsTasksSlot() {
        FairSlots x = new FairSlots();
        Check.due("PROCESSORS at first", x.count(1), 1);
        Check.due("SLOT at first", x.count(2), 0);
        Check.due("MISSES at first", x.count(3), 0);
        Check.due("TIES at first", x.count(4), 3);
        // dbg: d leads b, b leads g, and neither w nor r tells anything.
        firstAtFirst("2/3;1/1", 1);
        firstAtFirst("3/5;1/2", 0);
        firstAtFirst("1/2;3/5", 1);
        firstAtFirst("2/3;3/4", 1);
        firstAtFirst("3/4;2/3", 0);
        firstAtFirst("1/2;5/9", 1);
        firstAtFirst("3/8;4/11", 0);
        firstAtFirst("4/11;3/8", 0);
        firstAtFirst("2/12;3/12", 1);
    }

    private static void firstAtFirst(String lines, int first) {
        FairSlots x = Check.made(2, lines);
        x.order();
        Check.due("the first of " + lines + " by TIES at first", x.row(0), first);
    }

    /** TASKS 0 .. 7, there or not. */
    private static void eightTasks() {
        FairSlots x = Check.made(1, "1/12;1/12;1/12;1/12;1/12;1/12;1/12");
        Check.due("seven TASKS", x.count(0), 127);
        Check.noTask("TASK 7 ahead of it", x, 7, 0);
        Check.due("the eighth", Check.joins(x, "1/11"), 1);
        Check.due("eight TASKS", x.count(0), 255);
        Check.due("P of TASK 7", x.task(7, 1), 11);
        Check.due("a ninth", Check.joins(x, "1/12"), -1);
        Check.due("eight TASKS still", x.count(0), 255);
        Check.noTask("TASK 8", x, 8, 0);
    }

    /** E 1 .. P, P 1 .. 12. */
    private static void weightsFromOneTwelfthToOne() {
        FairSlots x = new FairSlots();
        Check.due("0/1", Check.joins(x, "0/1"), -1);
        Check.due("1/0", Check.joins(x, "1/0"), -3);
        Check.due("1/13", Check.joins(x, "1/13"), -3);
        Check.due("2/1", Check.joins(x, "2/1"), -1);
        Check.due("12/11", Check.joins(x, "12/11"), -1);
        for (String line : new String[] {"1/1", "1/12", "12/12", "11/12", "11/11", "10/10", "9/10"}) {
            Check.due(line, Check.joins(new FairSlots(), line), 1);
        }
    }

    /** Each LINE is the least TASK that is not there, JOINED now, DONE 0. */
    private static void leastTaskThatIsNotThere() {
        FairSlots x = Check.made(4, "1/2;1/3;1/4;1/5;1/6;1/7;1/8;1/9");
        x.slots(60);
        for (int task : new int[] {7, 0, 3}) {
            for (int k = 0; k < 12 && x.leaves(task) < 0; k++) {
                x.slot();
            }
        }
        Check.due("TASKS 0, 3 and 7 are free", x.count(0), 0b01110110);
        int slot = x.count(2);
        Check.due("three come", Check.joins(x, "1/10;1/11e;1/12"), 3);
        int[] came = {0, 3, 7};
        for (int k = 0; k < 3; k++) {
            Check.due("P of TASK " + came[k], x.task(came[k], 1), 10 + k);
            Check.due("JOINED of TASK " + came[k], x.task(came[k], 2), slot);
            Check.due("EARLY of TASK " + came[k], x.task(came[k], 3), k == 1 ? 1 : 0);
            Check.due("DONE of TASK " + came[k], x.task(came[k], 4), 0);
        }
        Check.due("JOINED of TASK 1", x.task(1, 2), 0);
    }

    private static void window(FairSlots x, int i, int release, int deadline, int overlap, int group) {
        String part = "PART " + i + " of " + x.task(0, 0) + "/" + x.task(0, 1) + ", ";
        Check.due(part + "RELEASE", x.part(0, i, 0), release);
        Check.due(part + "DEADLINE", x.part(0, i, 1), deadline);
        Check.due(part + "OVERLAP", x.part(0, i, 2), overlap);
        Check.due(part + "GROUP DEADLINE", x.part(0, i, 3), group);
        Check.due(part + "LENGTH", x.part(0, i, 4), deadline - release);
    }

    /** RELEASE: by E (cut). DEADLINE: by E (cut up to the next whole). OVERLAP: 1, if it is no whole. */
    private static void windowsThatAreCut() {
        FairSlots x = Check.made(1, "3/7");
        window(x, 1, 0, 3, 1, 0);
        window(x, 2, 2, 5, 1, 0);
        window(x, 3, 4, 7, 0, 0);
        window(x, 4, 7, 10, 1, 0);
        x = Check.made(1, "1/12");
        window(x, 1, 0, 12, 0, 0);
        window(x, 2, 12, 24, 0, 0);
        x = Check.made(1, "11/12");
        window(x, 1, 0, 2, 1, 12);
        window(x, 10, 9, 11, 1, 12);
        window(x, 11, 10, 12, 0, 12);
        window(x, 12, 12, 14, 1, 24);
        x = Check.made(1, "12/12");
        window(x, 1, 0, 1, 0, 1);
        window(x, 200, 199, 200, 0, 200);
    }

    /**
     * The least number g that is DEADLINE of this PART, or more, so that, of this PART or a later one,
     * either g is DEADLINE and OVERLAP is 0, or g and 1 is DEADLINE and LENGTH is 3.
     */
    private static void groupDeadlines() {
        // g is DEADLINE of the PART itself.
        FairSlots x = Check.made(1, "1/2");
        window(x, 1, 0, 2, 0, 2);
        window(x, 2, 2, 4, 0, 4);
        // g is DEADLINE of a later one without OVERLAP; none of 3 by 4 has LENGTH 3.
        x = Check.made(1, "3/4");
        window(x, 1, 0, 2, 1, 4);
        window(x, 2, 1, 3, 1, 4);
        window(x, 3, 2, 4, 0, 4);
        // PART 2 of 3 by 5 has LENGTH 3: 3 is for the first; for itself 3 is less than DEADLINE.
        x = Check.made(1, "3/5");
        window(x, 1, 0, 2, 1, 3);
        window(x, 2, 1, 4, 1, 5);
        window(x, 3, 3, 5, 0, 5);
        window(x, 4, 5, 7, 1, 8);
        // PARTS 2, 3 and 4 of 5 by 9 have LENGTH 3, the last one of five again 2.
        x = Check.made(1, "5/9");
        window(x, 1, 0, 2, 1, 3);
        window(x, 2, 1, 4, 1, 5);
        window(x, 3, 3, 6, 1, 7);
        window(x, 4, 5, 8, 1, 9);
        window(x, 5, 7, 9, 0, 9);
        // PARTS 2, 3, 5, 6 of 7 by 12 have LENGTH 3; of PART 4, which has 2, DEADLINE 7 has OVERLAP.
        x = Check.made(1, "7/12");
        window(x, 1, 0, 2, 1, 3);
        window(x, 2, 1, 4, 1, 5);
        window(x, 3, 3, 6, 1, 8);
        window(x, 4, 5, 7, 1, 8);
        window(x, 5, 6, 9, 1, 10);
        window(x, 6, 8, 11, 1, 12);
        window(x, 7, 10, 12, 0, 12);
    }

    /** GROUP DEADLINE: of a TASK of which 2 times E is less than P: 0. */
    private static void groupDeadlinesOfLessThanHalf() {
        String[] lines = {"5/11", "5/10", "5/9", "1/3", "1/2", "6/12", "5/12", "1/1"};
        int[] due = {0, 2, 3, 0, 2, 2, 0, 1};
        for (int k = 0; k < lines.length; k++) {
            Check.due("GROUP DEADLINE of " + lines[k], Check.made(1, lines[k]).part(0, 1, 3), due[k]);
        }
    }

    /** RELEASE: JOINED and ..; DEADLINE: JOINED and ..; a GROUP DEADLINE of 0 stays 0. */
    private static void windowsFromJoinedOn() {
        FairSlots x = new FairSlots();
        x.slots(10);
        Check.joins(x, "3/5");
        window(x, 1, 10, 12, 1, 13);
        window(x, 3, 13, 15, 0, 15);
        x = new FairSlots();
        x.slots(1);
        Check.joins(x, "2/5");
        window(x, 1, 1, 4, 1, 0);
        window(x, 2, 3, 6, 0, 0);
    }

    /** READY in a SLOT t: if RELEASE is t or less. */
    private static void readyFromReleaseOn() {
        FairSlots x = Check.made(1, "1/3");
        int[] ready = {1, 0, 0, 1, 0, 0, 1};
        for (int slot = 0; slot < ready.length; slot++) {
            Check.due("READY in SLOT " + slot, x.order(), ready[slot]);
            Check.due("run in SLOT " + slot, x.slot(), ready[slot]);
        }
        x = Check.made(1, "2/5");
        int[] readyOf2By5 = {1, 0, 1, 0, 0, 1, 0, 1};
        for (int slot = 0; slot < readyOf2By5.length; slot++) {
            Check.due("2/5 in SLOT " + slot, x.slot(), readyOf2By5[slot]);
        }
    }

    /** .. or it is EARLY. */
    private static void readyIfEarly() {
        FairSlots x = Check.made(1, "1/3");
        x.slot();
        Check.due("not READY", x.order(), 0);
        x.hurries(0);
        Check.due("READY, as it is EARLY", x.order(), 1);
        Check.due("it is run", x.slot(), 1);
        x.hurries(0);
        x.slots(4);
        Check.due("SLOT", x.count(2), 6);
        Check.due("RELEASE of PART 3", x.part(0, 3, 0), 6);
        Check.due("READY by its RELEASE", x.order(), 1);
    }

    private static void firstBy(String ties, String lines, int first) {
        FairSlots x = Check.made(2, lines);
        Check.ties(x, ties);
        x.order();
        Check.due("the first of " + lines + " by " + ties, x.row(0), first);
    }

    /** By the first letter by which one is; by none: of the lesser TASK. */
    private static void tiesThatLeadOrNot() {
        firstBy("d", "1/4;1/3", 1);
        firstBy("d", "1/3;1/4", 0);
        firstBy("d", "1/3;2/6", 0);
        firstBy("b", "1/2;2/3", 1);
        firstBy("b", "2/3;1/2", 0);
        firstBy("b", "2/3;3/4", 0);
        firstBy("w", "5/12;1/2", 1);
        firstBy("w", "1/2;5/12", 0);
        firstBy("w", "6/12;1/2", 0);
        firstBy("w", "1/2;6/12", 0);
        firstBy("r", "1/3;1/2", 0);
        firstBy("", "1/12;1/1", 0);
        // As much by the first letter: the next one tells.
        firstBy("dw", "1/3;4/11", 1);
        firstBy("wd", "6/12;1/2", 0);
        firstBy("db", "1/2;2/3", 1);
        firstBy("bd", "1/3;1/2", 1);
        FairSlots x = Check.made(2, "1/12e;1/3e");
        x.slot();
        Check.ties(x, "r");
        x.order();
        Check.row("the lesser RELEASE, 3, not 12", x, 1, 0);
        Check.ties(x, "rd");
        x.order();
        Check.row("by r, then d", x, 1, 0);
    }

    /** g: of the greater GROUP DEADLINE, if OVERLAP of both is 1. */
    private static void tiesOfBothOverlaps() {
        // GROUP DEADLINES 3 and 4, OVERLAP of both is 1.
        firstBy("g", "2/3;3/4", 1);
        firstBy("g", "3/4;2/3", 0);
        // As great ones: of 2 by 3 and 3 by 5 both have 3.
        firstBy("g", "2/3;3/5", 0);
        firstBy("g", "3/5;2/3", 0);
        // OVERLAP of one is 0: of 1 by 2 with 2 and 2 by 3 with 3 none is ahead, nor the other way round.
        firstBy("g", "1/2;2/3", 0);
        firstBy("g", "1/1;11/12", 0);
        firstBy("gd", "11/12;1/1", 1);
        firstBy("gb", "1/2;2/3", 1);
        // A GROUP DEADLINE of 0 is less than any other one.
        firstBy("g", "2/5;3/5", 1);
        firstBy("g", "2/5;2/7", 0);
        // .. whenever they joined: PART 3 of 2 by 5 and PART 1 of 2 by 7, which joined in SLOT 5.
        FairSlots x = Check.made(1, "2/5");
        x.slots(5);
        Check.joins(x, "2/7");
        Check.ties(x, "g");
        x.order();
        Check.row("GROUP DEADLINE 0 of both", x, 0, 1);
    }

    /** All letters that were told count, the fifth, too. */
    private static void tiesOfFiveLetters() {
        firstBy("rdbgw", "4/11;3/8", 1);
        firstBy("rdbg", "4/11;3/8", 0);
        // In SLOT 3 PART 3 of TASK 2 and PART 1 of TASK 1, 5 by 7 both, differ in RELEASE alone: 2 and 3.
        FairSlots x = Check.made(2, "1/12e;1/12;5/7");
        x.leaves(1);
        Check.ties(x, "");
        x.slots(2);
        x.processors(1);
        x.slot();
        x.processors(2);
        Check.joins(x, "5/7");
        Check.due("PART 3 of 2 is next", x.task(2, 4), 2);
        Check.ties(x, "dbgw");
        x.order();
        Check.row("by dbgw", x, 1, 2, 0);
        Check.ties(x, "dbgwr");
        x.order();
        Check.row("by dbgwr", x, 2, 1, 0);
    }

    /** TASK 7 is as others, in SLOTS to come and behind undo(), too. */
    private static void tiesOfTheLastTask() {
        String six = "1/12;1/12;1/12;1/12;1/12;1/12;";
        lastTask("d", six + "1/3;1/2", 7, 6, 0);
        lastTask("d", six + "1/2;1/3", 6, 7, 0);
        lastTask("b", six + "1/2;2/3", 7, 0, 1);
        lastTask("w", six + "1/2;2/3", 7, 6, 0);
        // OVERLAP of all is 1, GROUP DEADLINE of the first six 0.
        six = "2/11;2/11;2/11;2/11;2/11;2/11;";
        lastTask("g", six + "2/3;3/4", 7, 6, 0);
        lastTask("g", six + "3/4;2/3", 6, 7, 0);
    }

    /** The first three of eight by TIES, on three PROCESSORS. */
    private static void lastTask(String ties, String lines, int first, int second, int third) {
        FairSlots x = Check.made(3, lines);
        Check.ties(x, ties);
        int run = 1 << first | 1 << second | 1 << third;
        for (int slots = 1; slots <= 4; slots++) {
            Check.due("order() of " + lines, x.order(), 8);
            Check.due("the first by " + ties, x.row(0), first);
            Check.due("the second by " + ties, x.row(1), second);
            Check.due("the third by " + ties, x.row(2), third);
            Check.due("runs(0) by " + ties, x.runs(0), run);
            Check.due("slot() by " + ties, x.slot(), run);
            x.slots(slots);
            x.undo();
            x.undo();
        }
    }

    /** They are gone through by number; one is kept, and left for one that is ahead of it. */
    private static void tiesThatGoRound() {
        // By g 2 is ahead of 0; 1 has no OVERLAP, so that 0 is ahead of it, and it of 2, by number.
        FairSlots x = Check.made(2, "2/3;1/2;3/4");
        Check.ties(x, "g");
        x.order();
        Check.row("2 is kept at the end", x, 2, 0, 1);
        // 0 is left for 1, by GROUP DEADLINE; 1 is kept, as 2 has no OVERLAP.
        x = Check.made(2, "2/3;3/4;1/2");
        Check.ties(x, "g");
        x.order();
        Check.row("1 is kept at the end", x, 1, 0, 2);
    }

    /** THE FIRST is run, then THE FIRST of the others, as many as there are PROCESSORS at most. */
    private static void asManyAsThereAreProcessors() {
        int[] run = {1, 3, 7, 15};
        for (int processors = 1; processors <= 4; processors++) {
            FairSlots x = Check.made(processors, "1/12;1/12;1/12;1/12;1/12");
            Check.due("with " + processors, x.slot(), run[processors - 1]);
            Check.row("with " + processors, x, 0, 5);
        }
        FairSlots x = Check.made(3, "1/12;1/12;1/12");
        Check.due("just as many", x.slot(), 7);
        Check.due("none is READY", x.slot(), 0);
        Check.row("none is READY", x, 0, 0);
        x = Check.made(4, "1/12;1/12;1/12");
        Check.due("one less", x.slot(), 7);
    }

    /** .. (then DONE of their TASKS is 1 more): one PART of a TASK in a SLOT. */
    private static void oncePerTask() {
        FairSlots x = Check.made(4, "1/12e");
        for (int k = 1; k <= 3; k++) {
            Check.due("slot()", x.slot(), 1);
            Check.due("DONE", x.task(0, 4), k);
        }
    }

    private static void slot(FairSlots x, int run, int misses, int ready) {
        String what = "SLOT " + x.count(2);
        Check.due(what, x.slot(), run);
        Check.row(what, x, misses, ready);
    }

    /** If DEADLINE of its next PART is the SLOT and 1, MISSES are 1 more. */
    private static void missesInTheSlotAheadOfDeadline() {
        FairSlots x = Check.made(1, "1/2e;1/2");
        Check.ties(x, "");
        slot(x, 1, 0, 2);
        slot(x, 1, 1, 2);
        // It is missed once, though it waits on.
        slot(x, 1, 0, 2);
        slot(x, 1, 0, 2);
        Check.due("MISSES", x.count(3), 1);
        // One that is run in the last SLOT ahead of its DEADLINE is in time.
        x = Check.made(1, "1/2;1/2");
        slot(x, 1, 0, 2);
        slot(x, 2, 0, 1);
        Check.due("MISSES of none", x.count(3), 0);
    }

    /** Of each TASK its next PART: that is the one behind the PART that was run in this very SLOT. */
    private static void missesOfWhatComesNext() {
        FairSlots x = Check.made(1, "1/2e;1/2");
        Check.ties(x, "");
        x.slots(4);
        x.hurries(0);
        // PARTS 1 and 2 are late and are run now; of PART 2 DEADLINE, 4, is past.
        slot(x, 2, 0, 1);
        // PART 3 has DEADLINE 6 and is next in SLOT 5, when PART 2 was run.
        slot(x, 2, 1, 1);
        slot(x, 2, 0, 1);
        slot(x, 2, 0, 1);
        Check.due("MISSES", x.count(3), 2);
        Check.due("DONE of 1", x.task(1, 4), 4);
    }

    /** LAG: (SLOT less JOINED) times E, less DONE times P; by P. */
    private static void lagFromJoinedOn() {
        FairSlots x = new FairSlots();
        x.slots(7);
        Check.joins(x, "5/12");
        x.lag(0);
        Check.row("LAG when it joined", x, 0, 1);
        x.slot();
        x.lag(0);
        Check.row("LAG behind one that was run", x, -7, 12);
        x.slot();
        x.lag(0);
        Check.row("LAG behind two SLOTS", x, -1, 6);
    }

    /** Fractions are told in lowest terms, upper and lower number (0 by 1; the lower one above 0). */
    private static void fractionsInLowestTerms() {
        FairSlots x = Check.made(1, "6/12");
        x.lag(0);
        Check.row("0 by 1", x, 0, 1);
        x.slot();
        x.lag(0);
        Check.row("below 0", x, -1, 2);
        x.use();
        Check.row("USE", x, 1, 2, 1, 2);
        x.odds(1, 1, 10);
        Check.row("0 by 1", x, 0, 1);
        x.odds(1, 1, 0);
        Check.row("1 by 1", x, 1, 1);
        x.odds(2, 2, 5);
        Check.row("odds", x, 1, 4);
        x.hurries(0);
        x.slots(3);
        x.lag(0);
        Check.row("a whole one", x, -2, 1);
    }

    private static void question(String what, Alike.Call call) {
        Alike.question(what, Alike::rich, call);
    }

    /** Questions change nothing. */
    private static void questionsChangeNothing() {
        question("task()", x -> x.task(0, 4));
        question("part()", x -> x.part(0, 200, 3));
        question("lag()", x -> x.lag(3));
        question("use()", x -> x.use());
        question("order()", x -> x.order());
        question("behind()", x -> x.behind());
        question("ahead()", x -> x.ahead(3));
        question("runs()", x -> x.runs(99));
        question("when()", x -> x.when(1, 60));
        question("misses()", x -> x.misses());
        question("round()", x -> x.round());
        question("share()", x -> x.share(2, 60));
        question("pairs()", x -> x.pairs(60));
        question("lags()", x -> x.lags(60));
        question("flow()", x -> x.flow(8));
        question("waits()", x -> x.waits(4));
        question("room()", x -> x.room());
        question("fewest()", x -> x.fewest());
        question("fits()", x -> x.fits());
        question("asks()", x -> x.asks());
        question("weights()", x -> x.weights());
        question("looks()", x -> x.looks());
        question("odds()", x -> x.odds(8, 4, 3));
        question("divisors()", x -> x.divisors(200));
        question("rests()", x -> x.rests(9));
        question("law()", x -> Check.law(x, "wrgbd"));
        question("years()", x -> x.years(7, 60));
        question("count()", x -> x.count(5));
        question("row()", x -> x.row(0));
    }

    /** NONE comes ahead of other answers below 0, if not said otherwise. */
    private static void noneAheadOfOthers() {
        FairSlots x = new FairSlots();
        Check.due("pairs() of another n and no TASKS", x.pairs(0), -1);
        Check.due("lags() of another n and no TASK", x.lags(61), -1);
        Check.due("sheet() of another kind and n", x.sheet(4, -1, 0, 0), -1);
        x = Check.made(1, "1/2");
        x.slot();
        Check.due("when() of another i", x.when(0, 0), -1);
        Check.due("when() of one that was run", x.when(0, 1), -3);
        Check.due("ahead() of none such", x.ahead(1), -1);
        Check.due("ahead() of one that is not READY", x.ahead(0), -2);
        Check.due("leaves() of none such", x.leaves(1), -1);
        Check.due("leaves() too early", x.leaves(0), -3);
        Check.due("waits() of none such", x.waits(1), -1);
        x = Check.made(2, "1/1;1/12");
        Check.due("processors() of another v, below USE", x.processors(0), -1);
        Check.due("processors() below USE", x.processors(1), -3);
    }

    private static void refused(String what, Alike.Call call, long answer) {
        Alike.refused(what, Alike::rich, call, answer);
    }

    /** Refused calls answer NONE, or false, and change nothing but THE TEXT; the ROW stays. */
    private static void refusedCallsOfTasks() {
        refused("end(-1)", x -> x.end(-1) ? 1 : 0, 0);
        refused("end(1)", x -> x.end(1) ? 1 : 0, 0);
        refused("joins() of x", x -> Check.joins(x, "x"), -1);
        refused("joins() with a bad second LINE", x -> Check.joins(x, "1/12;1/x"), -8);
        refused("joins() above PROCESSORS", x -> Check.joins(x, "1/1;5/12"), -100);
        refused("joins() of one too many", x -> Check.joins(x, "1/12;1/12;1/12;1/12"), -16);
        refused("ties() of x", x -> Check.ties(x, "x"), -1);
        refused("ties() of rr", x -> Check.ties(x, "rr"), -2);
        refused("task(5, 0)", x -> x.task(5, 0), Alike.THROWN);
        refused("task(0, 5)", x -> x.task(0, 5), Alike.THROWN);
        refused("part(5, 1, 0)", x -> x.part(5, 1, 0), Alike.THROWN);
        refused("part(0, 0, 0)", x -> x.part(0, 0, 0), Alike.THROWN);
        refused("part(0, 201, 0)", x -> x.part(0, 201, 0), Alike.THROWN);
        refused("part(0, 1, 5)", x -> x.part(0, 1, 5), Alike.THROWN);
        refused("sheet(4, 1, 1, 1)", x -> x.sheet(4, 1, 1, 1), -1);
        refused("sheet(-1, 1, 1, 1)", x -> x.sheet(-1, 1, 1, 1), -1);
        refused("sheet(2, 9, 1, 1)", x -> x.sheet(2, 9, 1, 1), -1);
        refused("sheet(3, 9, 1, 1)", x -> x.sheet(3, 9, 1, 1), -1);
        refused("sheet(2, -1, 1, 1)", x -> x.sheet(2, -1, 1, 1), -2);
    }

    private static void refusedCallsOfSlots() {
        refused("slots(-1)", x -> x.slots(-1), -1);
        refused("slots(61)", x -> x.slots(61), -1);
        refused("processors(0)", x -> x.processors(0), -1);
        refused("processors(5)", x -> x.processors(5), -1);
        refused("processors(4)", x -> x.processors(4), -2);
        refused("processors(2)", x -> x.processors(2), -3);
        refused("leaves(5)", x -> x.leaves(5), -1);
        refused("leaves(3)", x -> x.leaves(3), -3);
        refused("hurries(5)", x -> x.hurries(5), -1);
        refused("shift() of x", x -> Check.shift(x, "x"), -1);
        refused("shift() of *n6", x -> Check.shift(x, "*n6"), -4);
        refused("heard(0, 0)", x -> x.heard(0, 0), -1);
        refused("saw(0, 0)", x -> x.saw(0, 0), -1);
        refused("keep(2)", x -> x.keep(2) ? 1 : 0, 0);
        refused("keep(-1)", x -> x.keep(-1) ? 1 : 0, 0);
        refused("again(1)", x -> x.again(1) ? 1 : 0, 0);
        refused("again(2)", x -> x.again(2) ? 1 : 0, 0);
        refused("again(-1)", x -> x.again(-1) ? 1 : 0, 0);
        Alike.refused("undo() of none", () -> {
            FairSlots x = Alike.rich();
            x.again(0);
            return x;
        }, x -> x.undo(), -1);
    }

    private static void refusedQuestions() {
        refused("lag(5)", x -> x.lag(5), -1);
        refused("ahead(5)", x -> x.ahead(5), -1);
        refused("runs(-1)", x -> x.runs(-1), -1);
        refused("runs(100)", x -> x.runs(100), -1);
        refused("when(5, 1)", x -> x.when(5, 1), -1);
        refused("when(0, 61)", x -> x.when(0, 61), -1);
        refused("when(0, 1)", x -> x.when(0, 1), -3);
        refused("share(5, 1)", x -> x.share(5, 1), -1);
        refused("share(0, 61)", x -> x.share(0, 61), -1);
        refused("pairs(0)", x -> x.pairs(0), -1);
        refused("lags(0)", x -> x.lags(0), -1);
        refused("flow(0)", x -> x.flow(0), -1);
        refused("flow(9)", x -> x.flow(9), -1);
        refused("waits(5)", x -> x.waits(5), -1);
        refused("odds(9, 0, 0)", x -> x.odds(9, 0, 0), -1);
        refused("divisors(201)", x -> x.divisors(201), -1);
        refused("rests(19)", x -> x.rests(19), -1);
        refused("law() of x", x -> Check.law(x, "x"), -10000);
        refused("law() of dbd", x -> Check.law(x, "dbd"), -10002);
        refused("years(1, 0)", x -> x.years(1, 0), -1);
        refused("years(1, 61)", x -> x.years(1, 61), -1);
        refused("count(11)", x -> x.count(11), -1);
        refused("row(5)", x -> x.row(5), Alike.THROWN);
        refused("row(-1)", x -> x.row(-1), Alike.THROWN);
    }

    private static void tellsThereIsNone(String what, Alike.Maker maker, Alike.Call call, long answer) {
        Alike.refused(what, () -> {
            FairSlots x = maker.made();
            x.odds(3, 2, 4);
            return x;
        }, call, answer);
    }

    /** The ROW stays with each answer that tells of a refusal or that there is none. */
    private static void answersThatTellThereIsNone() {
        tellsThereIsNone("behind()", FairSlots::new, x -> x.behind(), -2);
        tellsThereIsNone("misses()", FairSlots::new, x -> x.misses(), -2);
        tellsThereIsNone("round() of no TASK", FairSlots::new, x -> x.round(), -3);
        tellsThereIsNone("pairs()", () -> Check.made(1, "1/2"), x -> x.pairs(1), -2);
        tellsThereIsNone("lags()", FairSlots::new, x -> x.lags(1), -2);
        tellsThereIsNone("asks()", FairSlots::new, x -> x.asks(), -2);
        tellsThereIsNone("round()", () -> Check.made(1, "1/2e"), x -> x.round(), -2);
        tellsThereIsNone("room()", () -> Check.made(1, "1/1"), x -> x.room(), -2);
        tellsThereIsNone("when()", () -> Check.made(1, "1/2"), x -> x.when(0, 60), -2);
        tellsThereIsNone("waits()", () -> Alike.held(2, 0, 0), x -> x.waits(1), -2);
        tellsThereIsNone("ahead()", () -> {
            FairSlots x = Check.made(1, "1/2");
            x.slot();
            return x;
        }, x -> x.ahead(0), -2);
        tellsThereIsNone("looks()", () -> {
            FairSlots x = new FairSlots();
            x.saw(1, 1);
            return x;
        }, x -> x.looks(), -2);
    }

    private static void rowStays(String what, Alike.Call call) {
        FairSlots x = Alike.rich();
        String row = Alike.rowOf(x);
        long answer = call.on(x);
        Check.due(what + " is not refused", answer >= 0, true);
        Check.same("the ROW behind " + what, Alike.rowOf(x), row);
    }

    /** .. and with calls that do not tell of it. */
    private static void callsThatDoNotTellOfTheRow() {
        rowStays("sign()", x -> x.sign(0));
        rowStays("end()", x -> x.end(0) ? 1 : -1);
        rowStays("joins()", x -> Check.joins(x, "1/12"));
        rowStays("joins() of nothing", x -> x.joins());
        rowStays("ties()", x -> Check.ties(x, "d"));
        rowStays("task()", x -> x.task(0, 0));
        rowStays("part()", x -> x.part(0, 1, 0));
        rowStays("sheet()", x -> x.sheet(2, 2, 1, 1));
        rowStays("processors()", x -> x.processors(3));
        rowStays("leaves()", x -> {
            x.slots(0);
            x.lags(9);
            Check.joins(x, "1/12");
            return x.leaves(5);
        });
        rowStays("hurries()", x -> x.hurries(0));
        rowStays("undo()", x -> x.undo());
        rowStays("waits()", x -> x.waits(0));
        rowStays("heard()", x -> x.heard(0, 1));
        rowStays("forget()", x -> x.forget());
        rowStays("saw()", x -> x.saw(1, 0));
        rowStays("denies()", x -> x.denies());
        rowStays("keep()", x -> x.keep(1) ? 1 : -1);
        rowStays("again()", x -> x.again(0) ? 1 : -1);
        rowStays("count()", x -> x.count(9));
        rowStays("row()", x -> x.row(0) + 1000);
    }

    /** .. change nothing but THE TEXT, which a call that reads it empties. */
    private static void textIsEmptiedByWhatReadsIt() {
        Alike.Call[] readers = {x -> x.joins(), x -> x.ties(), x -> x.shift(), x -> x.law()};
        String[] texts = {"1/12", "dbg", "*", "wr"};
        for (int k = 0; k < readers.length; k++) {
            for (String text : new String[] {texts[k], "x", texts[k] + "x"}) {
                FairSlots x = Alike.rich();
                Check.write(x, text);
                Check.due("signs of " + text, x.count(10), text.length());
                readers[k].on(x);
                Check.due("signs behind what reads " + text, x.count(10), 0);
            }
        }
        FairSlots x = Alike.rich();
        Check.write(x, "1/1;1/1");
        Check.due("joins() above PROCESSORS", x.joins(), -100);
        Check.due("signs behind it", x.count(10), 0);
        Check.write(x, "1/12");
        x.slots(61);
        x.sheet(9, 0, 0, 0);
        x.leaves(7);
        x.undo();
        x.keep(1);
        x.slots(60);
        x.again(1);
        Check.due("signs behind others", x.count(10), 4);
        Check.due("they are read as they were", x.joins(), 1);
    }
}
