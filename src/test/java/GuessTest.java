/** Promises 32 to 39: which TASK it was, weights that fit. */
public final class GuessTest {
    public static void main(String[] args) {
        promise32();
        promise33();
        promise34();
        promise35();
        promise36();
        promise37();
        promise38();
        promise39();
        Check.finish("GuessTest");
    }

    private static void promise32() {
        int[] least = {1, 1, 0, 0, 0};
        int[] most = {12, 12, 1, 1, 20};
        for (int what = 0; what < 5; what++) {
            FairSlots x = new FairSlots();
            Check.due("below, " + what, x.heard(what, least[what] - 1), -1);
            Check.due("above, " + what, x.heard(what, most[what] + 1), -1);
            Check.due("the least, " + what, x.heard(what, least[what]), 1);
            Check.due("the most, " + what, x.heard(what, most[what]), 2);
        }
        FairSlots x = new FairSlots();
        Check.due("heard(5, 1)", x.heard(5, 1), -1);
        Check.due("heard(-1, 1)", x.heard(-1, 1), -1);
        Check.due("heard(MIN, MIN)", x.heard(Integer.MIN_VALUE, Integer.MIN_VALUE), -1);
        for (int k = 1; k <= 12; k++) {
            Check.due("heard", x.heard(4, 0), k);
        }
        Check.due("the 13th", x.heard(4, 0), -1);
        Check.due("what was heard", x.count(6), 12);
    }

    private static void promise33() {
        FairSlots x = Check.made(1, "1/2;1/3");
        Check.due("nothing", x.forget(), 0);
        x.heard(0, 3);
        x.heard(0, 2);
        Check.due("none fits", x.fits(), 0);
        Check.due("two", x.forget(), 2);
        Check.due("heard", x.count(6), 0);
        Check.due("all fit again", x.fits(), 3);
        Check.due("heard anew", x.heard(0, 3), 1);
    }

    private static void fits(FairSlots x, int set) {
        Check.due("fits()", x.fits(), set);
        Check.row("fits()", x, Integer.bitCount(set));
    }

    private static void promise34() {
        fits(new FairSlots(), 0);
        FairSlots x = Check.made(3, "1/2;2/3;5/12;6/12e");
        fits(x, 15);
        hearsAlone(x, 0, 12, 12);
        hearsAlone(x, 0, 5, 0);
        hearsAlone(x, 1, 1, 15);
        hearsAlone(x, 1, 5, 12);
        hearsAlone(x, 1, 6, 8);
        hearsAlone(x, 2, 1, 15);
        hearsAlone(x, 2, 0, 0);
        // A half counts to those of a half or more.
        hearsAlone(x, 3, 1, 11);
        hearsAlone(x, 3, 0, 4);
        hearsAlone(x, 4, 0, 15);
        hearsAlone(x, 4, 1, 0);
        x.heard(2, 1);
        x.heard(4, 1);
        // 1, 3 and 0 are run, by DEADLINE and OVERLAP; it is asked anew as things stand.
        Check.due("slot()", x.slot(), 11);
        fits(x, 10);
        x.forget();
        hearsAlone(x, 2, 0, 1);
        hearsAlone(x, 4, 1, 11);
        x.heard(0, 12);
        x.heard(3, 1);
        fits(x, 8);
    }

    private static void hearsAlone(FairSlots x, int what, int v, int set) {
        x.heard(what, v);
        Check.due("fits() with " + what + ", " + v, x.fits(), set);
        Check.row("fits() with " + what + ", " + v, x, Integer.bitCount(set));
        x.forget();
    }

    private static void asks(FairSlots x, int code, int left) {
        Check.due("asks()", x.asks(), code);
        Check.row("asks()", x, left);
    }

    private static void promise35() {
        FairSlots x = new FairSlots();
        Check.due("none fits", x.asks(), -2);
        asks(Check.made(1, "1/2;1/3;1/6"), 2, 2);
        asks(Check.made(1, "1/12"), 1, 1);
        // E 1, 1, 2, 3; all P differ.
        asks(Check.made(2, "1/2;1/3;2/7;3/12"), 102, 2);
        asks(Check.made(1, "1/6;1/12;1/6"), 6, 2);
        // Alike but for being READY, or for DONE.
        x = Check.made(2, "1/8;1/8;1/8;1/8");
        asks(x, 1, 4);
        x.slot();
        asks(x, 200, 2);
        x.sheet(2, 8, 1, 0);
        asks(x, 401, 2);
        x = Check.made(4, "1/8;1/8;7/8;7/8");
        asks(x, 102, 2);
        // The most that may be asked of each: P 12, E 12 or more, DONE 20 or more.
        asks(Check.made(1, "1/12;1/11"), 11, 1);
        asks(Check.made(4, "12/12;11/12;12/12;11/12"), 112, 2);
        x = Check.made(2, "1/12e;1/12e");
        x.slots(19);
        x.hurries(0);
        x.hurries(1);
        asks(x, 1, 2);
        x.hurries(1);
        x.slot();
        x.hurries(1);
        asks(x, 420, 1);
        x = Check.made(4, "2/3;2/5;2/4;2/7");
        asks(x, 300, 2);
        x.use();
        x.heard(0, 12);
        Check.due("none fits", x.asks(), -2);
        Check.due("the ROW stays", x.count(9), 4);
    }

    private static void promise36() {
        FairSlots x = new FairSlots();
        Check.due("saw(0, 0)", x.saw(0, 0), -1);
        Check.due("saw(13, 0)", x.saw(13, 0), -1);
        Check.due("saw(1, -1)", x.saw(1, -1), -1);
        Check.due("saw(1, 151)", x.saw(1, 151), -1);
        Check.due("saw(12, 150)", x.saw(12, 150), 1);
        for (int k = 2; k <= 10; k++) {
            Check.due("saw", x.saw(1, 0), k);
        }
        Check.due("the 11th", x.saw(1, 0), -1);
        Check.due("what was seen", x.count(7), 10);
    }

    private static void promise37() {
        FairSlots x = new FairSlots();
        Check.due("nothing", x.denies(), 0);
        x.saw(2, 3);
        x.saw(2, 4);
        Check.due("two", x.denies(), 2);
        Check.due("what was seen", x.count(7), 0);
        Check.due("all fit again", x.weights(), 78);
        Check.due("saw anew", x.saw(2, 3), 1);
    }

    private static void weights(int[] seen, int fit, long... row) {
        FairSlots x = new FairSlots();
        x.use();
        for (int k = 0; k + 1 < seen.length; k += 2) {
            x.saw(seen[k], seen[k + 1]);
        }
        Check.due("weights()", x.weights(), fit);
        Check.row("weights()", x, row);
    }

    private static void promise38() {
        weights(new int[] {}, 78, 1, 1);
        weights(new int[] {2, 3}, 7, 3, 1);
        weights(new int[] {2, 1, 5, 6}, 9, 3, 2);
        weights(new int[] {1, 0}, 78, 1, 1);
        weights(new int[] {1, 1}, 0);
        weights(new int[] {2, 3, 2, 4}, 0);
        weights(new int[] {12, 132}, 1, 12, 1);
        weights(new int[] {12, 11}, 12, 1, 1);
        FairSlots x = new FairSlots();
        x.slots(5);
        x.saw(2, 2);
        // JOINED in 0, whatever SLOT is: P by E is 2 or more, less than 3.
        Check.due("in a later SLOT", x.weights(), 14);
    }

    private static void looks(int[] seen, int i, int left) {
        FairSlots x = new FairSlots();
        for (int k = 0; k + 1 < seen.length; k += 2) {
            x.saw(seen[k], seen[k + 1]);
        }
        x.use();
        Check.due("looks()", x.looks(), i);
        Check.row("looks()", x, left);
    }

    private static void promise39() {
        looks(new int[] {}, 12, 12);
        looks(new int[] {2, 3}, 4, 4);
        looks(new int[] {2, 1, 5, 6}, 8, 4);
        looks(new int[] {12, 132}, 1, 1);
        looks(new int[] {12, 11}, 1, 12);
        FairSlots x = new FairSlots();
        x.use();
        x.saw(1, 1);
        Check.due("none fits", x.looks(), -2);
        Check.row("the ROW stays", x, 0, 1, 1, 1);
    }
}
