/** The boundary cases that promises 1 to 8 name, one test a sentence, which stands ahead of it. */
public final class EdgeTasksTest {
    private static final String FULL = "12/12e;12/12e;12/12e;12/12e;12/12e;12/12e;12/12e;12/12e";

    public static void main(String[] args) {
        newObject();
        signsHighestByteFirst();
        eightySignsAtMost();
        endOfFirstSigns();
        endBelowAndBeyond();
        joinsOfNothing();
        linesThatEndTooEarly();
        signsThatCannotStand();
        zerosAheadAndThirdDigits();
        greatPAtItsFirstDigit();
        greatEAtItsFirstDigit();
        fiftyFiveSignsAtMost();
        lineWithoutTask();
        useAsMuchAsProcessors();
        useBehindAllSigns();
        nobodyIfNotAll();
        tiesOfNothingAndOfAll();
        tiesThatCannotStand();
        taskOfWhat();
        taskOfNoneSuch();
        partFromOneTo200();
        partOfOthers();
        sheetOfBytes();
        sheetOfShorts();
        sheetOfInts();
        sheetOfNone();
        sheetMissing();
        sheetBelowZero();
        sheetOfOthers();
        sheetOfThoseThatAreThere();
        sheetIsNotUndone();
        Check.finish("EdgeTasksTest");
    }

    /** Promise 1: One PROCESSOR, no TASKS. */
    private static void newObject() {
        FairSlots x = new FairSlots();
        Check.due("PROCESSORS", x.count(1), 1);
        Check.due("TASKS", x.count(0), 0);
        for (int task = -1; task <= 8; task++) {
            Check.noTask("TASK " + task, x, task, 0);
        }
        for (int what = 5; what <= 10; what++) {
            Check.due("count(" + what + ")", x.count(what), 0);
        }
        Check.due("nothing is kept under 0", x.again(0), false);
        Check.due("nothing is kept under 1", x.again(1), false);
    }

    /** Promise 2: Four signs come behind THE TEXT, of v the highest byte first. */
    private static void signsHighestByteFirst() {
        FairSlots x = new FairSlots();
        x.sign('d' << 24 | 'b' << 16 | 'x' << 8 | 'g');
        Check.due("the third is bad", x.ties(), -3);
        x.sign('d' << 24 | 'b' << 16 | 'g' << 8 | 'w');
        x.sign('r' << 24 | 'x' << 16);
        Check.due("behind the first four", x.ties(), -6);
        // Signs from 0 to 255 are signs as others.
        for (int v : new int[] {0, -1, Integer.MIN_VALUE, Integer.MAX_VALUE}) {
            Check.due("sign(" + v + ")", x.sign(v), 4);
            Check.due("the first of " + v, x.ties(), -1);
        }
    }

    /** Refused: there would be more than 80. */
    private static void eightySignsAtMost() {
        FairSlots x = new FairSlots();
        for (int k = 1; k <= 20; k++) {
            Check.due("sign() to " + 4 * k, x.sign(0x2a2a2a2a), 4 * k);
        }
        Check.due("sign() to 84", x.sign(0x2a2a2a2a), -1);
        Check.due("signs", x.count(10), 80);
        for (int from = 79; from >= 77; from--) {
            x.end(from);
            Check.due("sign() from " + from, x.sign(0x2a2a2a2a), -1);
            Check.due("signs from " + from, x.count(10), from);
        }
        x.end(76);
        Check.due("sign() from 76", x.sign(0x2a2a2a2a), 80);
        x.end(60);
        Check.due("what was refused left no signs", x.shift(), 60);
        Check.due("sign() when it is read", x.sign(0), 4);
    }

    /** Promise 3: THE TEXT has its first n signs alone: true. */
    private static void endOfFirstSigns() {
        FairSlots x = new FairSlots();
        Check.due("end(0) of nothing", x.end(0), true);
        Check.write(x, "1/2;1/3");
        Check.due("end(7) of as many", x.end(7), true);
        Check.due("signs", x.count(10), 7);
        Check.due("end(3)", x.end(3), true);
        Check.due("signs", x.count(10), 3);
        // What comes then comes behind these three.
        x.sign(0x3b312f35);
        Check.due("joins()", x.joins(), 2);
        Check.due("P of 1", x.task(1, 1), 5);
        Check.write(x, "x");
        Check.due("end(0)", x.end(0), true);
        Check.due("nothing is left", x.joins(), 0);
        for (int k = 0; k < 20; k++) {
            x.sign(0);
        }
        Check.due("end(80)", x.end(80), true);
        Check.due("signs", x.count(10), 80);
    }

    /** .. false if it has not so many, or n is below 0. */
    private static void endBelowAndBeyond() {
        FairSlots x = new FairSlots();
        Check.due("end(1) of nothing", x.end(1), false);
        Check.write(x, "dbg");
        for (int n : new int[] {4, 5, 80, 81, -1, -80, Integer.MAX_VALUE, Integer.MIN_VALUE}) {
            Check.due("end(" + n + ") of three", x.end(n), false);
            Check.due("signs behind it", x.count(10), 3);
        }
        Check.due("THE TEXT is as it was", x.ties(), 3);
        Check.write(x, "dbgw");
        x.end(2);
        Check.due("end(3) when two are left", x.end(3), false);
        Check.due("two are left", x.ties(), 2);
    }

    /** Promise 4: THE TEXT tells of TASKS that join (an empty one: nothing). */
    private static void joinsOfNothing() {
        Alike.refused("joins() of nothing", Alike::rich, x -> x.joins(), 0);
        FairSlots x = new FairSlots();
        Check.due("nothing joined", x.joins(), 0);
        Check.due("nothing to undo", x.undo(), -1);
    }

    private static void stopsAt(String text, int place) {
        FairSlots x = new FairSlots();
        Check.due("joins() of " + text, Check.joins(x, text), -1 - place);
        Check.due("TASKS behind " + text, x.count(0), 0);
        Check.due("signs behind " + text, x.count(10), 0);
        Check.due("what can be undone behind " + text, x.count(8), 0);
    }

    /** -1 - p: .. (its end, if it ends too early). */
    private static void linesThatEndTooEarly() {
        stopsAt("1", 1);
        stopsAt("12", 2);
        stopsAt("1/", 2);
        stopsAt("12/", 3);
        stopsAt("1/2;", 4);
        stopsAt("1/2e;", 5);
        stopsAt("1/12;", 5);
        stopsAt("1/2;1", 5);
        stopsAt("1/2;1/", 6);
        stopsAt("1/2e;10/", 8);
    }

    /** -1 - p: the sign at p can't stand there. */
    private static void signsThatCannotStand() {
        for (String sign : new String[] {"x", "/", ";", "e", " ", "E", "-", "*", "\u00e9", "\u0000"}) {
            stopsAt(sign, 0);
            stopsAt("1/" + sign, 2);
            stopsAt("1/2;" + sign, 4);
        }
        for (String sign : new String[] {"x", ";", "e", " ", ":", "."}) {
            stopsAt("1" + sign, 1);
            stopsAt("12" + sign, 2);
        }
        for (String sign : new String[] {"x", "/", "E", " ", ":"}) {
            stopsAt("1/2" + sign, 3);
            stopsAt("1/12" + sign, 4);
            stopsAt("1/2e" + sign, 4);
        }
        stopsAt("1/2ee", 4);
        stopsAt("1/2e2", 4);
        stopsAt("1/2;;1/2", 4);
        stopsAt("x1/2", 0);
    }

    /** A NUMBER (of 1 or 2 digits, no 0 ahead). */
    private static void zerosAheadAndThirdDigits() {
        stopsAt("0", 0);
        stopsAt("01/2", 0);
        stopsAt("0/2", 0);
        stopsAt("1/0", 2);
        stopsAt("1/02", 2);
        stopsAt("1/2;0/1", 4);
        stopsAt("100/12", 2);
        stopsAt("123", 2);
        stopsAt("1/120", 4);
        stopsAt("1/101", 4);
        Check.due("10/10", Check.joins(new FairSlots(), "10/10"), 1);
        Check.due("9/9", Check.joins(new FairSlots(), "9/9"), 1);
    }

    /** .. a P above 12: at its first digit. */
    private static void greatPAtItsFirstDigit() {
        stopsAt("1/13", 2);
        stopsAt("12/13", 3);
        stopsAt("1/20", 2);
        stopsAt("1/99e", 2);
        stopsAt("1/12;1/13", 7);
        stopsAt("1/2;12/13", 7);
        stopsAt("1/130", 2);
        stopsAt("14/13", 3);
        Check.due("1/12", Check.joins(new FairSlots(), "1/12"), 1);
    }

    /** .. an E above P: at its first digit, when P is there. */
    private static void greatEAtItsFirstDigit() {
        stopsAt("2/1", 0);
        stopsAt("12/11", 0);
        stopsAt("13/12", 0);
        stopsAt("99/12e", 0);
        stopsAt("10/9", 0);
        stopsAt("1/2;3/2", 4);
        stopsAt("1/12;12/11", 5);
        stopsAt("3/2;x", 0);
        stopsAt("3/1x", 0);
        // P is not there yet.
        stopsAt("99", 2);
        stopsAt("99/", 3);
        stopsAt("99/0", 3);
        stopsAt("99x", 2);
        // P is 12 and not 1.
        Check.due("3/12", Check.joins(new FairSlots(), "3/12"), 1);
        Check.due("12/12", Check.joins(new FairSlots(), "12/12"), 1);
    }

    /** .. 55, if it has more and the first 55 could go on or end. */
    private static void fiftyFiveSignsAtMost() {
        Check.due("signs of eight LINES", FULL.length(), 55);
        FairSlots x = new FairSlots();
        Check.due("55 signs", Check.joins(x, FULL), -100);
        stopsAt(FULL + ";", 55);
        stopsAt(FULL + "x", 55);
        stopsAt(FULL + "e", 55);
        stopsAt(FULL + ";1/12;1/12", 55);
        // One bad sign of the first 55 comes ahead of it.
        stopsAt(FULL.substring(0, 54) + "xe", 54);
        stopsAt("x" + FULL, 0);
        stopsAt(FULL.substring(0, 48) + ";" + FULL.substring(48), 49);
        // 54 signs and one more.
        Check.due("54 signs", Check.joins(x, FULL.substring(0, 54)), -100);
        stopsAt(FULL.substring(0, 54) + ";", 55);
        stopsAt(FULL.substring(0, 54) + "x", 54);
    }

    /** .. the first sign of a LINE for which there is no TASK left. */
    private static void lineWithoutTask() {
        String seven = "1/12;1/12;1/12;1/12;1/12;1/12;1/12";
        stopsAt(seven + ";1/12;1/12", 40);
        stopsAt(seven + ";1/12;x", 40);
        stopsAt(seven + ";1/12;", 40);
        FairSlots x = Check.made(1, seven);
        Check.due("two, where one is left", Check.joins(x, "1/12;1/12"), -6);
        Check.due("TASKS", x.count(0), 127);
        Check.due("one, where one is left", Check.joins(x, "1/12"), 1);
        Check.due("one, where none is left", Check.joins(x, "1/12"), -1);
        Check.due("a bad one, where none is left", Check.joins(x, "0"), -1);
        Check.due("nothing, where none is left", x.joins(), 0);
        x.leaves(4);
        Check.due("one, where one is left again", Check.joins(x, "1/11"), 1);
        Check.due("P of TASK 4", x.task(4, 1), 11);
    }

    /** -100: USE would be above PROCESSORS. */
    private static void useAsMuchAsProcessors() {
        Check.due("1", Check.joins(new FairSlots(), "1/1"), 1);
        Check.due("1/2 and 1/3 and 1/6", Check.joins(new FairSlots(), "1/2;1/3;1/6"), 3);
        Check.due("1 by 132 less", Check.joins(new FairSlots(), "10/11;1/12"), 2);
        Check.due("1 by 132 more", Check.joins(new FairSlots(), "1/11;11/12"), -100);
        Check.due("1 and 1/12", Check.joins(new FairSlots(), "1/1;1/12"), -100);
        // The least that can be above 2 and below 3.
        FairSlots two = new FairSlots();
        two.processors(2);
        Check.due("2 and 1 by 27720", Check.joins(two, "1/11;1/8;3/7;5/9;4/5"), -100);
        FairSlots three = new FairSlots();
        three.processors(3);
        Check.due("3 less 1 by 27720", Check.joins(three, "1/5;4/9;4/7;7/8;10/11"), 5);
        for (int processors = 1; processors <= 4; processors++) {
            FairSlots x = new FairSlots();
            if (processors > 1) {
                x.processors(processors);
            }
            for (int k = 0; k < processors; k++) {
                Check.due("a whole one", Check.joins(x, "1/1"), 1);
            }
            Check.due("above " + processors, Check.joins(x, "1/12"), -100);
            Check.due("what can be undone", x.count(8), processors + (processors > 1 ? 1 : 0));
        }
        FairSlots x = Check.made(1, "1/2;1/3");
        Check.due("with those that are there", Check.joins(x, "1/5"), -100);
        Check.due("with those that are there", Check.joins(x, "1/6"), 1);
        x.leaves(0);
        Check.due("without one that left", Check.joins(x, "1/2"), 1);
    }

    /** .. (asked behind all signs). */
    private static void useBehindAllSigns() {
        stopsAt("1/1;1/1x", 7);
        stopsAt("1/1;1/1;", 8);
        stopsAt("1/1;1/1;1/13", 10);
        stopsAt("1/1;1/1;2/1", 8);
        Check.due("then USE", Check.joins(new FairSlots(), "1/1;1/1"), -100);
    }

    /** Nobody joins, if not all do. */
    private static void nobodyIfNotAll() {
        FairSlots x = Check.made(1, "1/2");
        x.slot();
        for (String text : new String[] {"1/4;x", "1/4;1/3", "1/4;1/4;1/12", "1/4;5/4"}) {
            Check.due("joins() of " + text + " is not done", Check.joins(x, text) < 0, true);
            Check.due("TASKS behind " + text, x.count(0), 1);
            Check.due("what can be undone behind " + text, x.count(8), 2);
        }
        Check.due("all do", Check.joins(x, "1/4;1/4"), 2);
        Check.due("TASKS", x.count(0), 7);
    }

    /** Promise 5: THE TEXT is TIES (an empty one: none of the letters). */
    private static void tiesOfNothingAndOfAll() {
        FairSlots x = Check.made(2, "1/3;1/2");
        Check.due("ties() of nothing", x.ties(), 0);
        Check.due("letters", x.count(4), 0);
        x.order();
        Check.row("by number", x, 0, 1);
        Check.due("all letters", Check.ties(x, "rwgbd"), 5);
        Check.due("letters", x.count(4), 5);
        x.order();
        Check.row("by w", x, 1, 0);
        for (String letter : new String[] {"d", "b", "g", "w", "r"}) {
            Check.due("ties() of " + letter, Check.ties(x, letter), 1);
            Check.due("letters", x.count(4), 1);
        }
        Check.due("what can be undone", x.count(8), 2);
    }

    private static void tiesStopAt(String text, int place) {
        Alike.refused("ties() of " + text, Alike::rich, x -> Check.ties(x, text), -1 - place);
        Alike.refused("law() of " + text, Alike::rich, x -> Check.law(x, text), -10000 - place);
    }

    /** -1 - p: the sign at p can't stand there (a letter that was there, at it). */
    private static void tiesThatCannotStand() {
        for (String sign : new String[] {"x", "D", " ", "0", "c", "e", "a", "f", "h", "q", "s", "v", "\u00e4"}) {
            tiesStopAt(sign, 0);
            tiesStopAt("db" + sign, 2);
            tiesStopAt("dbgwr" + sign, 5);
        }
        for (String letter : new String[] {"d", "b", "g", "w", "r"}) {
            tiesStopAt(letter + letter, 1);
            tiesStopAt("dbgwr" + letter, 5);
        }
        tiesStopAt("dbd", 2);
        tiesStopAt("dbgwb", 4);
        tiesStopAt("rdwr", 3);
        tiesStopAt("dxd", 1);
    }

    /** Promise 6: Of a TASK, what 0: E, 1: P, 2: JOINED, 3: 1 if it is EARLY, else 0, 4: DONE. */
    private static void taskOfWhat() {
        FairSlots x = new FairSlots();
        x.slots(3);
        x.processors(2);
        Check.joins(x, "5/12;1/12;1/12;1/12;1/12;1/12;1/12;1/12e");
        // TASK 0 is run in SLOTS 3, 5 and 7, the others one behind the other, 7 as the last one.
        x.slots(5);
        int[] first = {5, 12, 3, 0, 3};
        int[] last = {1, 12, 3, 1, 1};
        for (int what = 0; what <= 4; what++) {
            Check.due("task(0, " + what + ")", x.task(0, what), first[what]);
            Check.due("task(7, " + what + ")", x.task(7, what), last[what]);
        }
    }

    /** NoSuchElementException: none such, another what. */
    private static void taskOfNoneSuch() {
        FairSlots x = Check.made(1, "1/12;1/12;1/12");
        x.leaves(1);
        for (int task : new int[] {-1, 1, 3, 7, 8, Integer.MIN_VALUE, Integer.MAX_VALUE}) {
            for (int what = -1; what <= 5; what++) {
                Check.noTask("task(" + task + ", " + what + ")", x, task, what);
            }
        }
        for (int what : new int[] {-1, 5, Integer.MIN_VALUE, Integer.MAX_VALUE}) {
            Check.noTask("task(0, " + what + ")", x, 0, what);
            Check.noTask("task(2, " + what + ")", x, 2, what);
        }
        Check.due("task(2, 0)", x.task(2, 0), 1);
    }

    /** Promise 7: Of PART i (1 .. 200) of a TASK. */
    private static void partFromOneTo200() {
        FairSlots x = Check.made(1, "7/12");
        int[] first = {0, 2, 1, 3, 2};
        // 199 times 12 by 7 is 341 and 1 by 7, 200 times 12 by 7 is 342 and 6 by 7; PART 201 has RELEASE 342,
        // DEADLINE 345 and LENGTH 3.
        int[] last = {341, 343, 1, 344, 2};
        for (int what = 0; what <= 4; what++) {
            Check.due("PART 1, " + what, x.part(0, 1, what), first[what]);
            Check.due("PART 200, " + what, x.part(0, 200, what), last[what]);
        }
        x = Check.made(1, "1/12");
        Check.due("the latest DEADLINE", x.part(0, 200, 1), 2400);
        Check.due("the latest RELEASE", x.part(0, 200, 0), 2388);
    }

    /** NoSuchElementException: none such, another i, another what. */
    private static void partOfOthers() {
        FairSlots x = Check.made(1, "1/2;1/3");
        x.leaves(0);
        for (int what = -1; what <= 5; what++) {
            Check.noPart("of one that left", x, 0, 1, what);
            Check.noPart("of TASK -1", x, -1, 1, what);
            Check.noPart("of TASK 2", x, 2, 1, what);
            Check.noPart("of TASK 8", x, 8, 1, what);
            for (int i : new int[] {0, 201, -1, Integer.MIN_VALUE, Integer.MAX_VALUE}) {
                Check.noPart("of PART " + i, x, 1, i, what);
            }
        }
        for (int what : new int[] {-1, 5, Integer.MIN_VALUE, Integer.MAX_VALUE}) {
            Check.noPart("of what " + what, x, 1, 1, what);
            Check.noPart("of what " + what, x, 1, 200, what);
        }
    }

    private static FairSlots four() {
        return Check.made(1, "1/12e;1/12;1/12e;1/12");
    }

    private static void sheet(int kind, int n, int f, int step, int... early) {
        FairSlots x = four();
        String what = "sheet(" + kind + ", " + n + ", " + f + ", " + step + ")";
        int sum = 0;
        for (int one : early) {
            sum += one;
        }
        Check.due(what, x.sheet(kind, n, f, step), sum);
        for (int task = 0; task < early.length; task++) {
            Check.due(what + ", EARLY of " + task, x.task(task, 3), early[task]);
        }
    }

    /** Promise 8: bytes (kind 0) .. the lowest bits, with their sign: EARLY, if it is above 0. */
    private static void sheetOfBytes() {
        sheet(0, 4, 127, 1, 1, 0, 0, 0);
        sheet(0, 4, 255, 1, 0, 0, 1, 1);
        sheet(0, 4, 1, -1, 1, 0, 0, 0);
        sheet(0, 4, -128, -1, 0, 1, 1, 1);
        sheet(0, 4, 256, 0, 0, 0, 0, 0);
        sheet(0, 4, 0x7fffff80, 0, 0, 0, 0, 0);
        sheet(0, 4, 0x80000001, 0, 1, 1, 1, 1);
        sheet(0, 4, 64, 64, 1, 0, 0, 0);
    }

    /** .. shorts (1). */
    private static void sheetOfShorts() {
        sheet(1, 4, 32767, 1, 1, 0, 0, 0);
        sheet(1, 4, 65535, 1, 0, 0, 1, 1);
        sheet(1, 4, 128, 127, 1, 1, 1, 1);
        sheet(1, 4, -32768, -1, 0, 1, 1, 1);
        sheet(1, 4, 65536, 0, 0, 0, 0, 0);
        sheet(1, 4, 0x80000001, 0, 1, 1, 1, 1);
        sheet(1, 4, 16384, 16384, 1, 0, 0, 0);
    }

    /** .. ints (2) of n entries f, f + step, ..; they go round. */
    private static void sheetOfInts() {
        sheet(2, 4, 1, -1, 1, 0, 0, 0);
        sheet(2, 4, -1, 1, 0, 0, 1, 1);
        sheet(2, 4, 65536, 0, 1, 1, 1, 1);
        sheet(2, 4, Integer.MAX_VALUE, 1, 1, 0, 0, 0);
        sheet(2, 4, Integer.MIN_VALUE, -1, 0, 1, 1, 1);
        sheet(2, 4, Integer.MAX_VALUE, Integer.MAX_VALUE, 1, 0, 1, 0);
        sheet(2, 4, 1, Integer.MIN_VALUE, 1, 0, 1, 0);
    }

    /** .. of n entries: those behind it are not. */
    private static void sheetOfNone() {
        sheet(2, 0, 1, 1, 0, 0, 0, 0);
        sheet(0, 1, 1, 1, 1, 0, 0, 0);
        sheet(1, 3, 1, 1, 1, 1, 1, 0);
        sheet(2, 4, 1, 1, 1, 1, 1, 1);
        sheet(2, 5, 1, 1, 1, 1, 1, 1);
        sheet(2, 8, 1, 1, 1, 1, 1, 1);
        Check.due("no TASKS", new FairSlots().sheet(2, 8, 1, 1), 0);
        FairSlots x = Check.made(1, "1/12;1/12;1/12;1/12;1/12;1/12;1/12;1/12");
        Check.due("eight of eight", x.sheet(0, 8, 1, 1), 8);
        Check.due("seven of eight", x.sheet(0, 7, 1, 1), 7);
        Check.due("EARLY of 6", x.task(6, 3), 1);
        Check.due("EARLY of 7", x.task(7, 3), 0);
    }

    /** -3: missing (none is). */
    private static void sheetMissing() {
        for (int n : new int[] {8, 4, 0, -1, Integer.MIN_VALUE}) {
            FairSlots x = four();
            Check.due("a missing one, n " + n, x.sheet(3, n, 1, 0), -3);
            for (int task = 0; task < 4; task++) {
                Check.due("EARLY of " + task, x.task(task, 3), 0);
            }
        }
        Check.due("a missing one, no TASKS", new FairSlots().sheet(3, 0, 0, 0), -3);
    }

    /** -2: n below 0 (of kinds 0 .. 2; nothing changes). */
    private static void sheetBelowZero() {
        for (int kind = 0; kind <= 2; kind++) {
            for (int n : new int[] {-1, -8, Integer.MIN_VALUE}) {
                int of = kind;
                Alike.refused("kind " + kind + ", n " + n, EdgeTasksTest::four, x -> x.sheet(of, n, 1, 1), -2);
            }
        }
    }

    /** NONE: another kind, n above 8 (these first). */
    private static void sheetOfOthers() {
        for (int kind : new int[] {-1, 4, Integer.MIN_VALUE, Integer.MAX_VALUE}) {
            for (int n : new int[] {-1, 0, 4, 9}) {
                Alike.refused("kind " + kind + ", n " + n, EdgeTasksTest::four, x -> x.sheet(kind, n, 1, 1), -1);
            }
        }
        for (int kind = 0; kind <= 3; kind++) {
            for (int n : new int[] {9, Integer.MAX_VALUE}) {
                int of = kind;
                Alike.refused("kind " + kind + ", n " + n, EdgeTasksTest::four, x -> x.sheet(of, n, 1, 1), -1);
            }
        }
    }

    /** EARLY of TASKS that are there, from the least on. */
    private static void sheetOfThoseThatAreThere() {
        FairSlots x = Check.made(1, "1/12;1/12;1/12;1/12;1/12");
        x.leaves(0);
        x.leaves(2);
        // TASKS 1, 3 and 4: 1, 0, -1.
        Check.due("sheet()", x.sheet(2, 3, 1, -1), 1);
        Check.due("EARLY of 1", x.task(1, 3), 1);
        Check.due("EARLY of 3", x.task(3, 3), 0);
        Check.due("EARLY of 4", x.task(4, 3), 0);
        Check.due("sheet()", x.sheet(2, 3, -1, 1), 1);
        Check.due("EARLY of 1", x.task(1, 3), 0);
        Check.due("EARLY of 4", x.task(4, 3), 1);
        Check.due("two entries", x.sheet(2, 2, 1, 0), 2);
        Check.due("EARLY of 3", x.task(3, 3), 1);
        Check.due("EARLY of 4", x.task(4, 3), 0);
        Check.due("one that comes into a gap", Check.joins(x, "1/12"), 1);
        Check.due("two entries", x.sheet(2, 2, 1, 0), 2);
        Check.due("EARLY of 0", x.task(0, 3), 1);
        Check.due("EARLY of 3", x.task(3, 3), 0);
    }

    /** Nothing is kept of it that could be undone (an undo() behind it brings back, too, how it was). */
    private static void sheetIsNotUndone() {
        FairSlots x = new FairSlots();
        Check.joins(x, "1/12;1/12e");
        x.slot();
        Check.due("sheet()", x.sheet(2, 8, 1, 0), 2);
        Check.due("what can be undone", x.count(8), 2);
        Check.due("undo() of slot()", x.undo(), 1);
        Check.due("EARLY of 0 ahead of it", x.task(0, 3), 0);
        Check.due("EARLY of 1 ahead of it", x.task(1, 3), 1);
        Check.due("sheet()", x.sheet(3, 0, 0, 0), -3);
        x.slot();
        Check.due("undo() of slot()", x.undo(), 1);
        Check.due("EARLY of 1 behind the sheet", x.task(1, 3), 0);
    }
}
