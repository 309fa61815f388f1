/** The boundary cases that promises 32 to 39 name, one test a sentence, which stands ahead of it. */
public final class EdgeGuessTest {
    private static final int[] LEAST = {1, 1, 0, 0, 0};
    private static final int[] MOST = {12, 12, 1, 1, 20};
    private static final int[] FAR = {Integer.MIN_VALUE, Integer.MAX_VALUE};

    public static void main(String[] args) {
        heardFromLeastToMost();
        heardOfOthers();
        heardTwelveAtMost();
        forgetOfNoneAndOfAll();
        fitsOfP();
        fitsOfE();
        fitsOfReady();
        fitsOfHalf();
        fitsOfDone();
        fitsAllThatWasHeard();
        fitsOfNoTask();
        asksOfEqualOnesTheLeast();
        asksFromLeastToMost();
        asksAmongThoseThatFit();
        asksOfNone();
        sawFromLeastToMost();
        sawOfOthers();
        sawTenAtMost();
        deniesOfNoneAndOfAll();
        weightsOfEachSighting();
        weightsOfAllThatWasSeen();
        weightsOfNone();
        looksOfEachSighting();
        looksOfOneThatIsLeft();
        looksOfNone();
        Check.finish("EdgeGuessTest");
    }

    /** Promise 32: P is v (1 .. 12); E is v (1 .. 12) or more; 1 or not (0); DONE is v (0 .. 20) or more. */
    private static void heardFromLeastToMost() {
        for (int what = 0; what < 5; what++) {
            FairSlots x = new FairSlots();
            Check.due("the least of " + what, x.heard(what, LEAST[what]), 1);
            Check.due("the most of " + what, x.heard(what, MOST[what]), 2);
            Check.due("heard", x.count(6), 2);
            int of = what;
            for (int v : new int[] {LEAST[what] - 1, MOST[what] + 1, -1, FAR[0], FAR[1]}) {
                Alike.refused("heard(" + what + ", " + v + ")", Alike::rich, y -> y.heard(of, v), -1);
            }
        }
    }

    /** Refused: others. */
    private static void heardOfOthers() {
        for (int what : new int[] {-1, 5, 100, FAR[0], FAR[1]}) {
            for (int v : new int[] {0, 1, FAR[1]}) {
                Alike.refused("heard(" + what + ", " + v + ")", Alike::rich, x -> x.heard(what, v), -1);
            }
        }
    }

    private static FairSlots heardTwelve() {
        FairSlots x = Check.made(1, "1/2;1/3");
        for (int k = 1; k <= 12; k++) {
            Check.due("heard, number " + k, x.heard(1, 1), k);
        }
        return x;
    }

    /** Refused: .. 12. */
    private static void heardTwelveAtMost() {
        Alike.refused("the 13th", EdgeGuessTest::heardTwelve, x -> x.heard(0, 3), -1);
        FairSlots x = heardTwelve();
        x.heard(0, 3);
        Check.due("what was refused does not count", x.fits(), 3);
        Check.due("forget()", x.forget(), 12);
        Check.due("heard anew", x.heard(0, 3), 1);
        Check.due("fits()", x.fits(), 2);
    }

    /** Promise 33: It is forgotten: how many there were. */
    private static void forgetOfNoneAndOfAll() {
        FairSlots x = Check.made(1, "1/2;1/3");
        Check.due("forget() of none", x.forget(), 0);
        x.heard(0, 3);
        Check.due("fits() ahead of it", x.fits(), 2);
        Check.due("forget() of one", x.forget(), 1);
        Check.due("heard", x.count(6), 0);
        Check.due("fits() behind it", x.fits(), 3);
        Check.due("forget() of none", x.forget(), 0);
        Check.due("forget() of twelve", heardTwelve().forget(), 12);
    }

    private static void fits(FairSlots x, int what, int v, int set) {
        x.forget();
        x.heard(what, v);
        Check.due("fits() with " + what + ", " + v, x.fits(), set);
        Check.row("fits() with " + what + ", " + v, x, Integer.bitCount(set));
    }

    /** Promise 34: TASKS (bits) that fit: P is v. */
    private static void fitsOfP() {
        FairSlots x = Check.made(4, "1/1;1/2;1/11;1/12;11/12;1/11;1/10;1/12");
        int[] due = new int[13];
        due[1] = 1;
        due[2] = 2;
        due[10] = 64;
        due[11] = 4 + 32;
        due[12] = 8 + 16 + 128;
        for (int v = 1; v <= 12; v++) {
            fits(x, 0, v, due[v]);
        }
    }

    /** E is v or more. */
    private static void fitsOfE() {
        FairSlots x = Check.made(4, "1/12;2/12;11/12;12/12;6/12");
        int[] due = {0, 31, 30, 28, 28, 28, 28, 12, 12, 12, 12, 12, 8};
        for (int v = 1; v <= 12; v++) {
            fits(x, 1, v, due[v]);
        }
    }

    /** Its next PART is READY (1) or not (0): now, in SLOT. */
    private static void fitsOfReady() {
        FairSlots x = Check.made(2, "1/2;1/3;1/4e");
        fits(x, 2, 1, 7);
        fits(x, 2, 0, 0);
        // 0 and 1 are run in SLOT 0; RELEASES are 2 and 3 then, and 2 is EARLY.
        x.slot();
        fits(x, 2, 1, 4);
        fits(x, 2, 0, 3);
        x.slot();
        fits(x, 2, 1, 5);
        x.slot();
        fits(x, 2, 0, 1);
        fits(x, 2, 1, 6);
    }

    /** 2 times E is P or more (1) or not (0). */
    private static void fitsOfHalf() {
        FairSlots x = Check.made(4, "1/2;5/11;6/11;5/10;5/12;4/9;6/12");
        fits(x, 3, 1, 0b1001101);
        fits(x, 3, 0, 0b0110010);
        fits(Check.made(1, "1/1"), 3, 1, 1);
    }

    /** DONE is v or more. */
    private static void fitsOfDone() {
        FairSlots x = Check.made(2, "1/1;1/12");
        fits(x, 4, 0, 3);
        fits(x, 4, 1, 0);
        x.slot();
        fits(x, 4, 1, 3);
        fits(x, 4, 2, 0);
        x.slots(18);
        Check.due("DONE of 0", x.task(0, 4), 19);
        fits(x, 4, 2, 3);
        fits(x, 4, 3, 1);
        fits(x, 4, 19, 1);
        fits(x, 4, 20, 0);
        x.slot();
        fits(x, 4, 20, 1);
        x.slots(60);
        fits(x, 4, 20, 1);
    }

    /** .. that fit all that was heard now. */
    private static void fitsAllThatWasHeard() {
        FairSlots x = Check.made(4, "1/12;2/12;11/12;12/12;6/12;2/11");
        x.heard(0, 12);
        Check.due("P is 12", x.fits(), 31);
        x.heard(1, 2);
        Check.due("and E 2 or more", x.fits(), 30);
        x.heard(3, 0);
        Check.due("and less than half", x.fits(), 2);
        Check.row("and less than half", x, 1);
        x.heard(0, 11);
        Check.due("and P is 11", x.fits(), 0);
        Check.row("and P is 11", x, 0);
        // What was heard stays, TASKS come and go.
        FairSlots y = new FairSlots();
        y.heard(0, 3);
        Check.due("no TASK", y.fits(), 0);
        Check.joins(y, "1/2;1/3");
        Check.due("one came", y.fits(), 2);
        y.leaves(1);
        Check.due("it left", y.fits(), 0);
    }

    private static void fitsOfNoTask() {
        FairSlots x = new FairSlots();
        x.use();
        Check.due("fits() of no TASK", x.fits(), 0);
        Check.row("fits() of no TASK", x, 0);
        x = Check.made(1, "1/12;1/12;1/12;1/12;1/12;1/12;1/12;1/12");
        Check.due("fits() of all, nothing heard", x.fits(), 255);
        Check.row("fits() of all, nothing heard", x, 8);
    }

    private static void asks(FairSlots x, int code, long left) {
        Check.due("asks()", x.asks(), code);
        Check.row("asks()", x, left);
    }

    /** Promise 35: 100 times what and v, as they may be heard, of equal ones the least. */
    private static void asksOfEqualOnesTheLeast() {
        // Nothing can part them: the least that may be heard.
        asks(Check.made(1, "1/12"), 1, 1);
        asks(Check.made(1, "1/12;1/12;1/12"), 1, 3);
        // P 3 and 7 part them as well as each other; E, 2 or more, does, too.
        asks(Check.made(1, "2/7;1/3"), 3, 1);
        // P leaves three of four, E and a half two; E is the lesser.
        asks(Check.made(4, "1/3;1/4;5/6;7/8"), 102, 2);
        // READY or not and DONE part them: READY is the lesser, and 0 of it.
        FairSlots x = Check.made(1, "1/8;1/8");
        x.slot();
        asks(x, 200, 1);
    }

    /** .. as they may be heard: each v from the least to the most. */
    private static void asksFromLeastToMost() {
        asks(Check.made(4, "1/1;1/2"), 1, 1);
        asks(Check.made(1, "1/12;1/12;1/5;1/7"), 12, 2);
        asks(Check.made(2, "1/12;1/12;2/12;2/12"), 102, 2);
        asks(Check.made(4, "12/12;12/12;11/12;11/12"), 112, 2);
        asks(Check.made(4, "11/12;11/12;10/12;10/12"), 111, 2);
        asks(Check.made(4, "2/4;2/5;2/6;2/3"), 300, 2);
        // DONE 1 and 0; both are EARLY, READY both.
        FairSlots x = Check.made(1, "1/12e;1/12e");
        x.slot();
        asks(x, 401, 1);
        // DONE 20 and 19; then 21 and 20, which can't be told apart any more.
        for (int more = 0; more <= 1; more++) {
            x = Check.made(2, "1/12e;1/12e");
            x.slots(19 + more);
            x.processors(1);
            x.slot();
            asks(x, more == 0 ? 420 : 1, more == 0 ? 1 : 2);
        }
    }

    /** .. the fewest such TASKS are left at most: of those that fit what was heard. */
    private static void asksAmongThoseThatFit() {
        FairSlots x = Check.made(2, "1/3;1/4;1/5;2/5");
        asks(x, 5, 2);
        x.heard(0, 5);
        asks(x, 102, 1);
        x.heard(1, 2);
        asks(x, 1, 1);
        x.heard(1, 3);
        Check.due("none is left", x.asks(), -2);
    }

    /** -2: none fits. */
    private static void asksOfNone() {
        Alike.refused("asks() of no TASK", FairSlots::new, x -> x.asks(), -2);
        Alike.refused("asks() when none fits", () -> {
            FairSlots x = Alike.rich();
            x.heard(0, 9);
            return x;
        }, x -> x.asks(), -2);
    }

    /** Promise 36: PART i (1 .. 12) has RELEASE r (0 .. 150). */
    private static void sawFromLeastToMost() {
        FairSlots x = new FairSlots();
        Check.due("saw(1, 0)", x.saw(1, 0), 1);
        Check.due("saw(12, 0)", x.saw(12, 0), 2);
        Check.due("saw(1, 150)", x.saw(1, 150), 3);
        Check.due("saw(12, 150)", x.saw(12, 150), 4);
        Check.due("seen", x.count(7), 4);
    }

    /** Refused: others. */
    private static void sawOfOthers() {
        for (int i : new int[] {0, 13, -1, FAR[0], FAR[1]}) {
            Alike.refused("saw(" + i + ", 0)", Alike::rich, x -> x.saw(i, 0), -1);
        }
        for (int r : new int[] {-1, 151, FAR[0], FAR[1]}) {
            Alike.refused("saw(1, " + r + ")", Alike::rich, x -> x.saw(1, r), -1);
            Alike.refused("saw(12, " + r + ")", Alike::rich, x -> x.saw(12, r), -1);
        }
    }

    private static FairSlots sawTen() {
        FairSlots x = new FairSlots();
        for (int k = 1; k <= 10; k++) {
            Check.due("saw, number " + k, x.saw(2, 3), k);
        }
        return x;
    }

    /** Refused: .. 10. */
    private static void sawTenAtMost() {
        Alike.refused("the 11th", EdgeGuessTest::sawTen, x -> x.saw(1, 1), -1);
        FairSlots x = sawTen();
        x.saw(1, 1);
        Check.due("what was refused does not count", x.weights(), 7);
        Check.due("denies()", x.denies(), 10);
        Check.due("saw anew", x.saw(1, 1), 1);
        Check.due("weights()", x.weights(), 0);
    }

    /** Promise 37: It is denied: how many there were. */
    private static void deniesOfNoneAndOfAll() {
        FairSlots x = new FairSlots();
        Check.due("denies() of none", x.denies(), 0);
        x.saw(1, 1);
        Check.due("denies() of one", x.denies(), 1);
        Check.due("seen", x.count(7), 0);
        Check.due("weights()", x.weights(), 78);
        Check.due("denies() of none", x.denies(), 0);
        Check.due("denies() of ten", sawTen().denies(), 10);
    }

    /** RELEASE: the greatest whole number that is not above (i - 1) times P by E. */
    private static int release(int e, int p, int i) {
        int r = 0;
        while ((r + 1) * e <= (i - 1) * p) {
            r++;
        }
        return r;
    }

    /** Promise 38: WEIGHTS (as E, P, not in lowest terms) that fit: how many; the ROW: the least P, its least E. */
    private static void weightsOfEachSighting() {
        FairSlots x = new FairSlots();
        Check.due("all of them", x.weights(), 78);
        Check.row("all of them", x, 1, 1);
        for (int i = 1; i <= 12; i++) {
            for (int r = 0; r <= 150; r++) {
                int many = 0;
                int leastP = 0;
                int leastE = 0;
                for (int p = 12; p >= 1; p--) {
                    for (int e = p; e >= 1; e--) {
                        if (release(e, p, i) == r) {
                            many++;
                            leastP = p;
                            leastE = e;
                        }
                    }
                }
                x.denies();
                x.saw(i, r);
                Check.due("weights() with " + i + ", " + r, x.weights(), many);
                if (many > 0) {
                    Check.row("weights() with " + i + ", " + r, x, leastP, leastE);
                } else {
                    Check.row("weights() with " + i + ", " + r, x);
                }
            }
        }
    }

    /** .. that fit all that was seen. */
    private static void weightsOfAllThatWasSeen() {
        FairSlots x = new FairSlots();
        // P by E is 1, 2 and 3 alone: 6 by 2 and 12 by 4, too.
        x.saw(12, 33);
        x.saw(2, 3);
        Check.due("1 by 3, whichever way it is told", x.weights(), 4);
        Check.row("1 by 3, whichever way it is told", x, 3, 1);
        x.saw(1, 0);
        Check.due("what is so of all", x.weights(), 4);
        // From 132 on none is as far as 133.
        x = new FairSlots();
        x.saw(12, 132);
        Check.due("1 by 12", x.weights(), 1);
        Check.row("1 by 12", x, 12, 1);
        x.saw(11, 120);
        Check.due("1 by 12 still", x.weights(), 1);
        x.saw(2, 11);
        Check.due("not 1 by 12", x.weights(), 0);
    }

    /** (nothing without). */
    private static void weightsOfNone() {
        FairSlots x = new FairSlots();
        x.use();
        x.saw(1, 1);
        Check.due("weights() of none", x.weights(), 0);
        Check.row("weights() of none", x);
    }

    private static boolean fit(int e, int p, int[] seen) {
        for (int k = 0; k < seen.length; k += 2) {
            if (release(e, p, seen[k]) != seen[k + 1]) {
                return false;
            }
        }
        return true;
    }

    private static int leftAtMost(int i, int[] seen) {
        int[] alike = new int[200];
        int most = 0;
        for (int p = 1; p <= 12; p++) {
            for (int e = 1; e <= p; e++) {
                if (fit(e, p, seen)) {
                    most = Math.max(most, ++alike[release(e, p, i)]);
                }
            }
        }
        return most;
    }

    private static void looks(int... seen) {
        int best = 1;
        for (int i = 2; i <= 12; i++) {
            if (leftAtMost(i, seen) < leftAtMost(best, seen)) {
                best = i;
            }
        }
        FairSlots x = new FairSlots();
        x.use();
        for (int k = 0; k < seen.length; k += 2) {
            x.saw(seen[k], seen[k + 1]);
        }
        int left = leftAtMost(best, seen);
        Check.due("looks()", x.looks(), left == 0 ? -2 : best);
        if (left > 0) {
            Check.row("looks()", x, left);
        } else {
            Check.row("looks(), the ROW stays", x, 0, 1, 1, 1);
        }
    }

    /** Promise 39: The i at which to look next: .. of equal ones the least: it; the ROW: how many at most. */
    private static void looksOfEachSighting() {
        looks();
        for (int i = 1; i <= 12; i++) {
            for (int r = 0; r <= 12 * (i - 1) + 1 && r <= 150; r++) {
                looks(i, r);
                looks(i, r, 5, 6);
            }
        }
    }

    private static void looksOfOneThatIsLeft() {
        FairSlots x = new FairSlots();
        x.saw(12, 132);
        Check.due("one is left: the least i", x.looks(), 1);
        Check.row("one is left: the least i", x, 1);
        // 1 by 1, 2 by 2, .. can't be parted.
        x.denies();
        x.saw(12, 11);
        Check.due("twelve that are alike", x.looks(), 1);
        Check.row("twelve that are alike", x, 12);
    }

    /** -2: none fits. */
    private static void looksOfNone() {
        Alike.refused("looks() when none fits", () -> {
            FairSlots x = Alike.rich();
            x.saw(2, 11);
            return x;
        }, x -> x.looks(), -2);
        Alike.refused("looks() of PART 1 in 1", () -> {
            FairSlots x = new FairSlots();
            x.saw(1, 1);
            return x;
        }, x -> x.looks(), -2);
    }
}
