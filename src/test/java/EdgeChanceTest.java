/** The boundary cases that promises 40 to 42 name, one test a sentence, which stands ahead of it. */
public final class EdgeChanceTest {
    private static final int[] FAR = {Integer.MIN_VALUE, Integer.MAX_VALUE};

    public static void main(String[] args) {
        oddsOfAll();
        oddsOfNoneAndOfEach();
        oddsOfOthers();
        divisorsFromNoneTo200();
        divisorsThatLose();
        divisorsOfAnotherN();
        restsFromNoneTo18();
        restsOfTheLeastAndTheMost();
        restsOfAnotherV();
        Check.finish("EdgeChanceTest");
    }

    /** How many of 10 to the n ways, each SLOT in ten, leave k or more. */
    private static long ways(int n, int k, int p) {
        if (n == 0) {
            return k <= 0 ? 1 : 0;
        }
        return p * ways(n - 1, k, p) + (10 - p) * ways(n - 1, k - 1, p);
    }

    private static void odds(FairSlots x, int n, int k, int p, long upper, long lower) {
        String what = "odds(" + n + ", " + k + ", " + p + ")";
        Check.due(what, x.odds(n, k, p), 0);
        Check.row(what, x, upper, lower);
    }

    /** Promise 40: Each of n SLOTS (0 .. 8) is lost by p tenths (0 .. 10): how likely k (0 .. 8) or more are not. */
    private static void oddsOfAll() {
        FairSlots x = new FairSlots();
        for (int n = 0; n <= 8; n++) {
            for (int k = 0; k <= 8; k++) {
                for (int p = 0; p <= 10; p++) {
                    long upper = ways(n, k, p);
                    long lower = 1;
                    for (int i = 0; i < n; i++) {
                        lower *= 10;
                    }
                    // Ten has 2 and 5 alone.
                    for (int by : new int[] {2, 5}) {
                        while (lower % by == 0 && upper % by == 0) {
                            upper /= by;
                            lower /= by;
                        }
                    }
                    odds(x, n, k, p, upper, lower);
                }
            }
        }
    }

    /** .. 0 or more always; more than there are, never; none is lost; all are. */
    private static void oddsOfNoneAndOfEach() {
        FairSlots x = new FairSlots();
        odds(x, 0, 0, 5, 1, 1);
        odds(x, 0, 1, 5, 0, 1);
        odds(x, 8, 0, 10, 1, 1);
        odds(x, 8, 1, 10, 0, 1);
        odds(x, 8, 8, 0, 1, 1);
        odds(x, 7, 8, 0, 0, 1);
        odds(x, 8, 8, 9, 1, 100000000);
        odds(x, 8, 8, 1, 43046721, 100000000);
        odds(x, 1, 1, 9, 1, 10);
        odds(x, 1, 1, 1, 9, 10);
    }

    /** NONE: others. */
    private static void oddsOfOthers() {
        for (int v : new int[] {-1, 9, FAR[0], FAR[1]}) {
            Alike.refused("odds() of n " + v, Alike::rich, x -> x.odds(v, 0, 0), -1);
            Alike.refused("odds() of k " + v, Alike::rich, x -> x.odds(8, v, 0), -1);
        }
        for (int p : new int[] {-1, 11, FAR[0], FAR[1]}) {
            Alike.refused("odds() of p " + p, Alike::rich, x -> x.odds(0, 0, p), -1);
        }
    }

    /** Promise 41: n (0 .. 200): 1 if the first one wins by best play; the ROW: the least that he takes so. */
    private static void divisorsFromNoneTo200() {
        int[] least = new int[201];
        for (int n = 1; n <= 200; n++) {
            for (int d = n - 1; d >= 1; d--) {
                if (n % d == 0 && least[n - d] == 0) {
                    least[n] = d;
                }
            }
        }
        FairSlots x = new FairSlots();
        for (int n = 0; n <= 200; n++) {
            x.use();
            Check.due("divisors(" + n + ")", x.divisors(n), least[n] > 0 ? 1 : 0);
            if (least[n] > 0) {
                Check.row("divisors(" + n + ")", x, least[n]);
            } else {
                Check.row("divisors(" + n + ")", x);
            }
        }
    }

    /** .. who can't has lost (nothing without). */
    private static void divisorsThatLose() {
        FairSlots x = new FairSlots();
        for (int n : new int[] {0, 1, 3, 199}) {
            x.use();
            Check.due("divisors(" + n + ")", x.divisors(n), 0);
            Check.row("divisors(" + n + ")", x);
        }
        for (int n : new int[] {2, 4, 200}) {
            Check.due("divisors(" + n + ")", x.divisors(n), 1);
            Check.row("divisors(" + n + ")", x, 1);
        }
    }

    /** NONE: another n. */
    private static void divisorsOfAnotherN() {
        for (int n : new int[] {-1, -2, 201, 202, FAR[0], FAR[1]}) {
            Alike.refused("divisors(" + n + ")", Alike::rich, x -> x.divisors(n), -1);
        }
    }

    private static int gain(int v, int own, int other) {
        return own + other <= v ? 3 * own : Math.floorDiv(3 * v * own, own + other) - other;
    }

    private static boolean rests(int v, int x, int y) {
        for (int z = 0; z <= 9; z++) {
            if (gain(v, z, y) > gain(v, x, y) || gain(v, z, x) > gain(v, y, x)) {
                return false;
            }
        }
        return true;
    }

    /** Promise 42: x and y (0 .. 9) of v (0 .. 18): how many; the ROW: the least (nothing without). */
    private static void restsFromNoneTo18() {
        FairSlots o = new FairSlots();
        for (int v = 0; v <= 18; v++) {
            int many = 0;
            int first = 0;
            for (int pair = 99; pair >= 0; pair--) {
                if (rests(v, pair / 10, pair % 10)) {
                    many++;
                    first = pair;
                }
            }
            o.use();
            Check.due("rests(" + v + ")", o.rests(v), many);
            Check.row("rests(" + v + ")", o, first / 10, first % 10);
        }
    }

    private static void restsOfTheLeastAndTheMost() {
        FairSlots o = new FairSlots();
        // Of nothing each has as much less as the other one asks for, whatever it asks for itself.
        Check.due("rests(0)", o.rests(0), 100);
        Check.row("rests(0)", o, 0, 0);
        // There is enough for all that both could ask for.
        Check.due("rests(18)", o.rests(18), 1);
        Check.row("rests(18)", o, 9, 9);
        // One less: 9 and 8, 8 and 9.
        Check.due("rests(17)", o.rests(17), 2);
        Check.row("rests(17)", o, 8, 9);
    }

    /** NONE: another v. */
    private static void restsOfAnotherV() {
        for (int v : new int[] {-1, 19, FAR[0], FAR[1]}) {
            Alike.refused("rests(" + v + ")", Alike::rich, x -> x.rests(v), -1);
        }
    }
}
