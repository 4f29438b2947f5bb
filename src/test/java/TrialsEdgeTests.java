/** The edges that the document names for trials, ways round and rows of saucers: promises 14 to 18. */
public final class TrialsEdgeTests extends Checks {
    private static final int ALL = 4095;

    public static void main(String[] args) {
        trialNumbers(); oneBowl(); twoBowls(); oneAtATime(); justSoMany(); mostBowls();
        roundNumbers(); nowhereToGo(); noWayRound(); farthest(); milkOnTheWay(); milkAtTheEnds(); besideAtTheEnds();
        milkAside(); leastFirstCell(); fewestAheadOfLeast();
        shunNumbers(); noneToShun(); nothingHelps(); allToShun(); endsToShun(); fewestToShun(); leastToShun();
        apartNumbers(); rowsOfNone(); fullRows(); leftOver();
        rowNumbers(); shortRows(); firstAndLastRow(); behindTheLastRow(); readAsNumbers();
        end();
    }

    // ---- promise 14

    private static void trialNumbers() {
        asks(14, "n bowls (1 to 99), at most k (1 to 20)");
        edges("n", 1, 99, OUTSIDE, n -> new SauceredMilk().trials(n, 1, 0));
        edges("n, first", 1, 99, OUTSIDE, n -> new SauceredMilk().trials(n, 20, 1));
        edges("k", 1, 20, OUTSIDE, k -> new SauceredMilk().trials(99, k, 0));
        edges("k, first", 1, 20, OUTSIDE, k -> new SauceredMilk().trials(1, k, 1));
        edges("what", 0, 1, OUTSIDE, what -> new SauceredMilk().trials(2, 2, what));
    }

    private static void oneBowl() {
        asks(14, "how many bowls are tried first (NONE: 0)");
        for (int k = 1; k <= 20; k++) trialsAre(1, k, 0, NONE);
    }

    private static void twoBowls() {
        asks(14, "at most k are tried together, k being more than there are bowls");
        for (int k = 1; k <= 20; k++) trialsAre(2, k, 1, 1);
        for (int k = 2; k <= 20; k++) trialsAre(3, k, 2, 1);
        for (int k = 2; k <= 20; k++) trialsAre(4, k, 2, 2);
    }

    private static void oneAtATime() {
        asks(14, "the fewest trials that are enough, whichever it is: the last one needs no trial");
        for (int n = 2; n <= 99; n++) trialsAre(n, 1, n - 1, 1);
    }

    /** Of 2, 4, 8 .. bowls half are tried; where more than k would have to be, each trial more is worth k bowls. */
    private static void justSoMany() {
        asks(14, "the fewest trials, the least by which it is as few, at just as many bowls and at one more");
        trialsAre(16, 8, 4, 8);
        trialsAre(16, 7, 5, 1);
        trialsAre(17, 8, 5, 1);
        trialsAre(24, 8, 5, 8);
        trialsAre(25, 8, 6, 1);
        trialsAre(32, 20, 5, 16);
        trialsAre(33, 20, 6, 1);
        trialsAre(51, 20, 6, 19);
        trialsAre(52, 20, 6, 20);
        trialsAre(53, 20, 7, 1);
        trialsAre(51, 19, 6, 19);
        trialsAre(52, 19, 7, 1);
        trialsAre(7, 3, 3, 3);
        trialsAre(8, 3, 4, 1);
    }

    private static void mostBowls() {
        asks(14, "n bowls up to 99");
        trialsAre(92, 20, 8, 20);
        trialsAre(93, 20, 9, 1);
        trialsAre(98, 20, 9, 6);
        trialsAre(99, 20, 9, 7);
        trialsAre(98, 2, 49, 2);
        trialsAre(99, 2, 50, 1);
        trialsAre(99, 1, 98, 1);
        SauceredMilk x = new SauceredMilk();
        due("many, then one", x.trials(99, 20, 0), 9);
        due("one", x.trials(1, 20, 0), 0);
        due("many with fewer together", x.trials(99, 3, 0), 34);
        due("many again", x.trials(99, 20, 0), 9);
    }

    // ---- promise 15

    /** Ways from each of these CELLS to the next. */
    private static SauceredMilk town(int... cells) {
        SauceredMilk x = new SauceredMilk();
        for (int i = 1; i < cells.length; i++) x.way(cells[i - 1], cells[i], true);
        return x;
    }

    private static SauceredMilk street() {
        return town(0, 1, 2, 3, 4, 5, 6, 7, 8, 9, 10, 11);
    }

    private static SauceredMilk fullTown() {
        SauceredMilk x = new SauceredMilk();
        for (int a = 0; a < 12; a++) for (int b = 0; b < a; b++) x.way(a, b, true);
        return x;
    }

    private static void roundNumbers() {
        asks(15, "UNKNOWN: both; OUTSIDE");
        SauceredMilk x = fullTown();
        edges("round from", 0, 11, UNKNOWN, from -> x.round(from, 1, 0));
        edges("round to", 0, 11, UNKNOWN, to -> x.round(1, to, 0));
        edges("first cell from", 0, 11, UNKNOWN, from -> x.round(from, 1, 1));
        edges("first cell to", 0, 11, UNKNOWN, to -> x.round(1, to, 1));
        edges("what", 0, 1, OUTSIDE, what -> x.round(0, 1, what));
        due("twice one that is not", x.round(12, 12, 0), UNKNOWN);
    }

    private static void nowhereToGo() {
        asks(15, "the CELL to which one goes first (NONE: 0)");
        SauceredMilk x = fullTown();
        for (int cell = 0; cell < 12; cell++) roundIs(x, cell, cell, 0, NONE);
        SauceredMilk noWays = new SauceredMilk();
        for (int cell = 0; cell < 12; cell++) roundIs(noWays, cell, cell, 0, NONE);
    }

    private static void noWayRound() {
        asks(15, "ROUND: NONE");
        SauceredMilk x = town(0, 1, 2, 3, 4, 5);
        roundIs(x, 0, 6, NONE, NONE);
        roundIs(x, 6, 0, NONE, NONE);
        roundIs(x, 0, 5, 5, 1);
        x.way(3, 2, false);
        roundIs(x, 0, 5, NONE, NONE);
        roundIs(x, 5, 3, 2, 4);
    }

    private static void farthest() {
        asks(15, "the fewest steps, from next door to all CELLS long");
        SauceredMilk x = street();
        for (int cell = 1; cell < 12; cell++) {
            roundIs(x, 0, cell, cell, 1);
            roundIs(x, cell, 0, cell, cell - 1);
        }
        roundIs(x, 11, 0, 11, 10);
        SauceredMilk full = fullTown();
        roundIs(full, 0, 11, 1, 11);
        roundIs(full, 11, 0, 1, 0);
    }

    private static void milkOnTheWay() {
        asks(15, "by none in which MILK is, nor from which a WAY leads to such a one");
        SauceredMilk x = street();
        x.milk(1 << 5);
        roundIs(x, 0, 3, 3, 1);
        roundIs(x, 7, 11, 4, 8);
        roundIs(x, 0, 7, NONE, NONE);
        roundIs(x, 3, 7, NONE, NONE);
        x.way(3, 7, true);
        roundIs(x, 0, 7, 4, 1);
        roundIs(x, 3, 7, 1, 7);
        x.milk(1 << 5 | 1 << 11);
        roundIs(x, 0, 9, 6, 1);
        roundIs(x, 0, 10, NONE, NONE);
        x.milk(ALL);
        for (int cell = 0; cell < 12; cell++) roundIs(x, cell, cell, NONE, NONE);
        roundIs(x, 3, 7, NONE, NONE);
    }

    private static void milkAtTheEnds() {
        asks(15, "none in which MILK is (both ends, too)");
        SauceredMilk x = town(0, 1);
        x.milk(1 << 11 | 1 << 6);
        roundIs(x, 11, 11, NONE, NONE);
        roundIs(x, 6, 6, NONE, NONE);
        roundIs(x, 0, 1, 1, 1);
        x.milk(1);
        roundIs(x, 0, 1, NONE, NONE);
        roundIs(x, 1, 0, NONE, NONE);
        roundIs(x, 0, 0, NONE, NONE);
    }

    private static void besideAtTheEnds() {
        asks(15, "nor from which a WAY leads to such a one (both ends, too)");
        SauceredMilk x = town(9, 0, 1, 2, 10);
        x.milk(1 << 9);
        roundIs(x, 0, 2, NONE, NONE);
        roundIs(x, 2, 0, NONE, NONE);
        roundIs(x, 0, 0, NONE, NONE);
        roundIs(x, 1, 10, 2, 2);
        x.milk(1 << 10);
        roundIs(x, 0, 2, NONE, NONE);
        roundIs(x, 2, 2, NONE, NONE);
        roundIs(x, 9, 1, 2, 0);
        x.way(2, 10, false);
        roundIs(x, 0, 2, 2, 1);
    }

    private static void milkAside() {
        asks(15, "MILK to which no WAY leads bars nothing else");
        SauceredMilk x = town(0, 1, 2, 3, 4, 5, 6, 7, 8, 9, 10);
        x.milk(1 << 11);
        roundIs(x, 0, 10, 10, 1);
        roundIs(x, 11, 11, NONE, NONE);
        x.milk(0);
        roundIs(x, 11, 11, 0, NONE);
    }

    private static void leastFirstCell() {
        asks(15, "the CELL to which one goes first, the least by which it is as few");
        SauceredMilk x = town(3, 11, 0, 10, 3, 5, 0, 1, 2, 3);
        roundIs(x, 3, 0, 2, 5);
        roundIs(x, 0, 3, 2, 5);
        x.way(5, 7, true);
        x.milk(1 << 7);
        roundIs(x, 3, 0, 2, 10);
        roundIs(x, 0, 3, 2, 10);
    }

    private static void fewestAheadOfLeast() {
        asks(15, "the fewest steps; the least by which it is AS FEW");
        SauceredMilk x = town(4, 0, 1, 5, 11, 4);
        roundIs(x, 4, 5, 2, 11);
        roundIs(x, 5, 4, 2, 11);
        x.way(4, 5, true);
        roundIs(x, 4, 5, 1, 5);
    }

    // ---- promise 16

    private static void shunNumbers() {
        asks(16, "UNKNOWN: both; OUTSIDE");
        SauceredMilk x = fullTown();
        x.milk(ALL);
        edges("shun from", 0, 11, UNKNOWN, from -> x.shun(from, 1, 0));
        edges("shun to", 0, 11, UNKNOWN, to -> x.shun(1, to, 0));
        edges("which from", 0, 11, UNKNOWN, from -> x.shun(from, 1, 1));
        edges("which to", 0, 11, UNKNOWN, to -> x.shun(1, to, 1));
        edges("what", 0, 1, OUTSIDE, what -> x.shun(0, 1, what));
        due("twice one that is not", x.shun(12, 12, 0), UNKNOWN);
    }

    private static void noneToShun() {
        asks(16, "the fewest CELLS with MILK that should have none: none");
        SauceredMilk x = street();
        shunIs(x, 0, 11, 0, 0);
        shunIs(x, 4, 4, 0, 0);
        x.milk(1 << 11);
        shunIs(x, 0, 9, 0, 0);
        shunIs(x, 0, 10, 1, 1 << 11);
        SauceredMilk noWays = new SauceredMilk();
        noWays.milk(ALL - 1);
        shunIs(noWays, 0, 0, 0, 0);
    }

    private static void nothingHelps() {
        asks(16, "SHUN: so that ROUND is; NONE");
        SauceredMilk x = town(0, 1, 2);
        shunIs(x, 0, 3, NONE, NONE);
        shunIs(x, 3, 2, NONE, NONE);
        x.milk(ALL);
        shunIs(x, 0, 3, NONE, NONE);
        shunIs(x, 3, 2, NONE, NONE);
        shunIs(x, 0, 2, 3, 7);
    }

    private static void allToShun() {
        asks(16, "the fewest CELLS with MILK that should have none: all");
        SauceredMilk full = fullTown();
        full.milk(ALL);
        shunIs(full, 0, 11, 12, ALL);
        shunIs(full, 11, 0, 12, ALL);
        shunIs(full, 6, 6, 12, ALL);
        full.milk(1 << 11 | 1);
        shunIs(full, 4, 5, 2, 1 << 11 | 1);
        SauceredMilk x = street();
        x.milk(ALL);
        shunIs(x, 0, 11, 12, ALL);
        shunIs(x, 0, 10, 12, ALL);
        shunIs(x, 0, 9, 11, ALL - (1 << 11));
    }

    private static void endsToShun() {
        asks(16, "so that ROUND is (both ends, too)");
        SauceredMilk x = street();
        x.milk(ALL);
        shunIs(x, 0, 0, 2, 3);
        shunIs(x, 11, 11, 2, 3 << 10);
        shunIs(x, 5, 5, 3, 7 << 4);
        shunIs(x, 0, 1, 3, 7);
        shunIs(x, 11, 10, 3, 7 << 9);
        SauceredMilk apart = new SauceredMilk();
        apart.milk(ALL);
        shunIs(apart, 4, 4, 1, 1 << 4);
    }

    /** From c to d by j, which is beside a and i, or by k, which is beside l. */
    private static SauceredMilk twoRoads() {
        SauceredMilk x = town(0, 9, 2, 10, 11);
        x.way(8, 9, true);
        x.way(9, 3, true);
        x.way(10, 3, true);
        return x;
    }

    private static void fewestToShun() {
        asks(16, "the fewest, ahead of the least as bits");
        SauceredMilk x = twoRoads();
        x.milk(1 | 1 << 8 | 1 << 11);
        shunIs(x, 2, 3, 1, 1 << 11);
        shunIs(x, 3, 2, 1, 1 << 11);
        x.milk(1 | 1 << 8 | 1 << 11 | 1 << 10);
        shunIs(x, 2, 3, 2, 1 << 11 | 1 << 10);
    }

    private static void leastToShun() {
        asks(16, "which, least as bits of as few");
        SauceredMilk x = twoRoads();
        x.milk(1 | 1 << 11);
        shunIs(x, 2, 3, 1, 1);
        x.milk(1 << 8 | 1 << 11);
        shunIs(x, 2, 3, 1, 1 << 8);
        SauceredMilk ring = street();
        ring.way(11, 0, true);
        ring.milk(ALL);
        // by b to f all but i, j, k must go; by l to h all but c, d, e: nine each
        shunIs(ring, 0, 6, 9, ALL - (7 << 8));
        shunIs(ring, 6, 0, 9, ALL - (7 << 8));
    }

    // ---- promise 17

    private static void apartNumbers() {
        asks(17, "n saucers (0 to 40), just j (0 to n)");
        edges("n", 0, 40, OUTSIDE, n -> new SauceredMilk().apart(n, 0));
        for (int n = 0; n <= 40; n++) {
            int saucers = n;
            edges("j of " + n, 0, n, OUTSIDE, j -> new SauceredMilk().apart(saucers, j));
        }
        due("neither", new SauceredMilk().apart(-1, -1), OUTSIDE);
        due("neither", new SauceredMilk().apart(41, 41), OUTSIDE);
    }

    private static void rowsOfNone() {
        asks(17, "of a row of n saucers just none is OFF, or just one");
        SauceredMilk x = new SauceredMilk();
        for (int n = 0; n <= 40; n++) {
            due("none of " + n, x.apart(n, 0), 1);
            if (n > 0) due("one of " + n, x.apart(n, 1), n);
        }
    }

    private static void fullRows() {
        asks(17, "no two side by side: as many as can be, and one more");
        SauceredMilk x = new SauceredMilk();
        for (int half = 0; half <= 20; half++) {
            due("half of an even row", x.apart(2 * half, half), half + 1);
            if (half > 0) due("half of an odd row", x.apart(2 * half - 1, half), 1);
            if (half > 0) due("one more", x.apart(2 * half, half + 1), 0);
            due("all", x.apart(2 * half, 2 * half), half == 0 ? 1 : 0);
        }
        due("all of one", x.apart(1, 1), 1);
        due("all of two", x.apart(2, 2), 0);
        due("all of 40", x.apart(40, 40), 0);
    }

    private static void leftOver() {
        asks(17, "in how many ways, left over by 1000007");
        SauceredMilk x = new SauceredMilk();
        due("37 saucers, 6 OFF", x.apart(37, 6), 906192);
        due("32 saucers, 8 OFF", x.apart(32, 8), 1081575 - 1000007);
        due("38 saucers, 6 OFF", x.apart(38, 6), 1107568 - 1000007);
        due("40 saucers, 10 OFF", x.apart(40, 10), 44352165 - 44 * 1000007);
        due("40 saucers, 11 OFF", x.apart(40, 11), 54627300 - 54 * 1000007);
        due("40 saucers, 12 OFF", x.apart(40, 12), 51895935 - 51 * 1000007);
    }

    // ---- promise 18

    private static void rowNumbers() {
        asks(18, "OUTSIDE: n 0 to 25, j, i (0 to 99999)");
        edges("n", 0, 25, OUTSIDE, n -> new SauceredMilk().row(n, 0, 0));
        edges("i", 0, 99999, OUTSIDE, i -> new SauceredMilk().row(25, 7, i));
        for (int n = 0; n <= 25; n++) {
            int saucers = n;
            edges("j of " + n, 0, n, OUTSIDE, j -> new SauceredMilk().row(saucers, j, 0));
        }
        due("OUTSIDE ahead of NONE", new SauceredMilk().row(0, 0, 100000), OUTSIDE);
        due("OUTSIDE ahead of NONE", new SauceredMilk().row(2, 2, -1), OUTSIDE);
    }

    private static void shortRows() {
        asks(18, "the i-th of a row of no saucers, and of one");
        SauceredMilk x = new SauceredMilk();
        due("of none", x.row(0, 0, 0), 0);
        due("of none, one more", x.row(0, 0, 1), NONE);
        due("of one, not OFF", x.row(1, 0, 0), 0);
        due("of one, not OFF, one more", x.row(1, 0, 1), NONE);
        due("of one, OFF", x.row(1, 1, 0), 1);
        due("of one, OFF, one more", x.row(1, 1, 1), NONE);
    }

    private static void firstAndLastRow() {
        asks(18, "the i-th, from the first to the last");
        SauceredMilk x = new SauceredMilk();
        due("first of 25, 7", x.row(25, 7, 0), 0b1010101010101);
        due("second", x.row(25, 7, 1), 0b10010101010101);
        due("last but one", x.row(25, 7, 50386), 0b1010101010100100000000000);
        due("last of 25, 7", x.row(25, 7, 50387), 0b1010101010101000000000000);
        due("one more", x.row(25, 7, 50388), NONE);
        due("the last that may be asked for", x.row(25, 7, 99999), NONE);
        due("the only one of 25, 13", x.row(25, 13, 0), 0b1010101010101010101010101);
        due("one more", x.row(25, 13, 1), NONE);
        due("14 of 25", x.row(25, 14, 0), NONE);
        due("all of 25", x.row(25, 25, 0), NONE);
    }

    private static void behindTheLastRow() {
        asks(18, "the i-th; NONE");
        for (int n = 0; n <= 25; n++) {
            SauceredMilk x = new SauceredMilk();
            for (int j = 0; j <= n; j++) {
                int many = x.apart(n, j);
                if (many > 0) due("a last of " + n + ", " + j, Integer.bitCount(x.row(n, j, many - 1)), j);
                due("behind the last of " + n + ", " + j, x.row(n, j, many), NONE);
            }
        }
    }

    private static void readAsNumbers() {
        asks(18, "the order of rows read as numbers, OFF being 1, the last saucer being the lowest bit");
        SauceredMilk x = new SauceredMilk();
        for (int i = 0; i < 25; i++) due("one of 25", x.row(25, 1, i), 1 << i);
        int last = -1;
        for (int i = 0; i < 21; i++) {
            int row = x.row(8, 2, i);
            due("rising", row > last ? 1 : 0, 1);
            due("none beside another", row & row << 1, 0);
            last = row;
        }
        due("the last", last, 0b10100000);
        due("no more", x.row(8, 2, 21), NONE);
    }
}
