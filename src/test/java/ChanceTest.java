/** Promises 40 to 42: chances, a game of divisors, shares at rest. */
public final class ChanceTest {
    public static void main(String[] args) {
        promise40();
        promise41();
        promise42();
        Check.finish("ChanceTest");
    }

    private static void odds(int n, int k, int p, long upper, long lower) {
        // Asked once more on an object that has told other odds.
        FairSlots x = new FairSlots();
        x.odds(8, 3, 7);
        String call = "odds(" + n + ", " + k + ", " + p + ")";
        Check.due(call, x.odds(n, k, p), 0);
        Check.row(call, x, upper, lower);
    }

    private static void promise40() {
        odds(2, 1, 5, 3, 4);
        odds(3, 2, 4, 81, 125);
        odds(0, 0, 3, 1, 1);
        odds(0, 1, 3, 0, 1);
        odds(8, 8, 0, 1, 1);
        odds(8, 1, 10, 0, 1);
        odds(8, 0, 10, 1, 1);
        odds(8, 8, 1, 43046721, 100000000);
        odds(8, 1, 9, 56953279, 100000000);
        odds(3, 4, 0, 0, 1);
        odds(1, 1, 3, 7, 10);
        odds(1, 1, 8, 1, 5);
        FairSlots x = new FairSlots();
        x.odds(1, 1, 3);
        int[][] others = {{-1, 0, 0}, {9, 0, 0}, {0, -1, 0}, {0, 9, 0}, {0, 0, -1}, {0, 0, 11}};
        for (int[] o : others) {
            Check.due("other odds", x.odds(o[0], o[1], o[2]), -1);
        }
        Check.row("the ROW stays", x, 7, 10);
    }

    private static void promise41() {
        FairSlots x = new FairSlots();
        for (int n = 0; n <= 200; n++) {
            boolean wins = n > 0 && n % 2 == 0;
            x.use();
            Check.due("divisors(" + n + ")", x.divisors(n), wins ? 1 : 0);
            if (wins) {
                Check.row("divisors(" + n + ")", x, 1);
            } else {
                Check.row("divisors(" + n + ")", x);
            }
        }
        Check.due("divisors(-1)", x.divisors(-1), -1);
        Check.due("divisors(201)", x.divisors(201), -1);
    }

    private static void promise42() {
        int[] many = {100, 29, 5, 4, 3, 6, 2, 1, 3, 3, 7, 7, 8, 6, 5, 4, 3, 2, 1};
        int[] first = {0, 3, 5, 8, 7, 7, 8, 9, 4, 4, 3, 3, 3, 4, 5, 6, 7, 8, 9};
        int[] second = {0, 6, 5, 8, 7, 8, 8, 9, 4, 5, 7, 8, 9, 9, 9, 9, 9, 9, 9};
        FairSlots x = new FairSlots();
        for (int v = 0; v <= 18; v++) {
            Check.due("rests(" + v + ")", x.rests(v), many[v]);
            Check.row("rests(" + v + ")", x, first[v], second[v]);
        }
        Check.due("rests(-1)", x.rests(-1), -1);
        Check.due("rests(19)", x.rests(19), -1);
        Check.row("the ROW stays", x, 9, 9);
    }
}
