/** The edges that the document names for SIGHTS, jugs, odds, a YEAR, IMAGES and what is told: promises 19 to 28. */
public final class PowerEdgeTests extends Checks {
    public static void main(String[] args) {
        sightNumbers(); eightSights(); roomForSights();
        forgetNone(); forgetAll();
        soOfWhich(); allFit(); oneFits(); noneFits(); greatestAndLeast(); whateverCreamThereWas();
        askNumbers(); askOfAll(); askOfFew(); askOfTheLeast(); askOfNone();
        jugNumbers(); emptyJugs(); alikeJugs(); jugsOnce(); jugsManyTimes(); fromEither();
        oddsNumbers(); oddsOfNoTime(); oddsOfEachTime(); lowestTerms(); longestOdds();
        yearNumbers(); goesOn(); goesBack(); bendsOver(); freshMilkFor(); thinksAgain(); anHourGoes();
        eachIfThatCanBe(); lastHourOfAYear(); leftOverBy(); mostActs(); notDoneInFact(); fromAllAsItIs();
        imageNumbers(); keptAnew(); allButThePad();
        restoreNumbers(); notKept(); restoredTwice(); sightsRestored();
        toldNumbers(); toldAtTheLeast(); toldAtTheMost();
        end();
    }

    // ---- promise 19

    private static void sightNumbers() {
        asks(19, "a saucer d (0 to 3) PLACES off, lost v (0 to 99)");
        for (boolean lies : new boolean[] {true, false}) {
            edges("d", 0, 3, OUTSIDE, d -> new SauceredMilk().seen(d, lies, 0));
            edges("v", 0, 99, OUTSIDE, v -> new SauceredMilk().seen(3, lies, v));
        }
    }

    private static void eightSights() {
        asks(19, "SIGHTS, 8 at most; FULL");
        SauceredMilk x = new SauceredMilk();
        for (int i = 1; i <= 7; i++) due("sight " + i, x.seen(0, false, 12), i);
        due("they fit", x.so(-1), 10);
        due("the eighth", x.seen(1, true, 9 + 5), 8);
        due("it counts", x.so(0), 35);
        due("the ninth", x.seen(3, false, 4), FULL);
        due("it does not", x.so(-1), 1);
        due("the ninth again", x.seen(0, false, 12), FULL);
        due("told", x.told(8), 8);
    }

    private static void roomForSights() {
        asks(19, "8 at most: there is room again behind forget()");
        SauceredMilk x = new SauceredMilk();
        for (int round = 0; round < 2; round++) {
            for (int i = 1; i <= 8; i++) due("sight " + i, x.seen(0, true, 0), i);
            due("the ninth", x.seen(0, true, 0), FULL);
            due("they go", x.forget(), 8);
        }
    }

    // ---- promise 20

    private static void forgetNone() {
        asks(20, "SIGHTS go: how many there were, none being there");
        SauceredMilk x = new SauceredMilk();
        due("none", x.forget(), 0);
        due("one", x.seen(0, true, 99), 1);
        due("it goes", x.forget(), 1);
        due("none", x.forget(), 0);
        toldIs(x, 8, 0);
    }

    private static void forgetAll() {
        asks(20, "SIGHTS go: how many there were, eight being there");
        SauceredMilk x = new SauceredMilk();
        for (int i = 0; i < 8; i++) x.seen(0, true, 99);
        x.seen(0, true, 99);
        due("nothing fits", x.so(-1), 0);
        due("eight", x.forget(), 8);
        due("all fits", x.so(-1), 100);
        due("the next is the first", x.seen(3, false, 9), 1);
        due("nothing of the others", x.so(-1), 10);
    }

    // ---- promise 21

    private static void soOfWhich() {
        asks(21, "how many (i = -1), the i-th; NONE (i below -1, too)");
        SauceredMilk x = new SauceredMilk();
        int[] none = {-2, -3, -33, -257, -65537, Integer.MIN_VALUE, 100, 101, 132, 255, 65536, Integer.MAX_VALUE};
        for (int i : none) due("so(" + i + ")", x.so(i), NONE);
        due("how many", x.so(-1), 100);
        due("the first", x.so(0), 0);
        due("the last", x.so(99), 99);
    }

    private static void allFit() {
        asks(21, "by which all SIGHTS are so, there being none");
        SauceredMilk x = new SauceredMilk();
        for (int i = 0; i < 100; i++) due("so(" + i + ")", x.so(i), i);
    }

    private static void oneFits() {
        asks(21, "10 times p, and e, by which all SIGHTS are so: one");
        SauceredMilk x = new SauceredMilk();
        x.seen(0, true, 45);
        due("how many", x.so(-1), 1);
        due("the greatest", x.so(0), 99);
        due("no other", x.so(1), NONE);
        x.forget();
        x.seen(3, true, 0);
        due("how many", x.so(-1), 1);
        due("the least", x.so(0), 0);
        due("no other", x.so(1), NONE);
    }

    private static void noneFits() {
        asks(21, "how many, the i-th: NONE, nothing being so");
        SauceredMilk x = new SauceredMilk();
        x.seen(0, true, 46);
        due("more than the most", x.so(-1), 0);
        due("the first", x.so(0), NONE);
        x.forget();
        x.seen(0, false, 40);
        due("POWER 10", x.so(-1), 0);
        x.forget();
        x.seen(0, false, 37);
        due("no whole POWER", x.so(-1), 0);
        x.forget();
        x.seen(3, false, 4);
        x.seen(3, false, 5);
        due("two that differ", x.so(-1), 0);
        x.forget();
        x.seen(3, false, 99);
        due("the most that can be told", x.so(-1), 0);
    }

    private static void greatestAndLeast() {
        asks(21, "POWER p and SPITE e (0 to 9 each): the i-th (rising)");
        for (int d = 0; d <= 3; d++) {
            SauceredMilk x = new SauceredMilk();
            x.seen(d, false, 9 * (4 - d));
            for (int i = 0; i < 10; i++) due("POWER 9, so(" + i + ")", x.so(i), 90 + i);
            due("no more", x.so(10), NONE);
            x.forget();
            x.seen(d, false, 0);
            for (int i = 0; i < 10; i++) due("POWER 0, so(" + i + ")", x.so(i), i);
            due("no more", x.so(10), NONE);
            x.forget();
            x.seen(d, true, 9 * (4 - d) + 9);
            due("both 9", x.so(0), 99);
            due("both 9", x.so(-1), 1);
            x.seen(d, true, 9 * (4 - d) + 8);
            due("not both", x.so(-1), 0);
        }
    }

    private static void whateverCreamThereWas() {
        asks(21, "lost v in an hour (all that an hour takes, whatever CREAM there was)");
        SauceredMilk x = new SauceredMilk();
        x.he(0, 9, 0);
        x.witness(0, 0, false, 5);
        hours(x, 1);
        due("the saucer lost 5, and no more", x.told(102), 0);
        x.seen(0, false, 5);
        due("that is not all that an hour takes", x.so(-1), 0);
        x.forget();
        x.seen(0, false, 36);
        due("that is", x.so(0), 90);
    }

    // ---- promise 22

    private static void askNumbers() {
        asks(22, "what (what = 0), how many (1). OUTSIDE");
        edges("ask", 0, 1, OUTSIDE, what -> new SauceredMilk().ask(what));
        SauceredMilk x = new SauceredMilk();
        x.seen(0, false, 99);
        edges("ask, nothing being so", 0, 1, OUTSIDE, x::ask);
    }

    private static void askOfAll() {
        asks(22, "fewest of these are left at the most, all being so");
        SauceredMilk x = new SauceredMilk();
        // 4 p and e are the same for three at the most: 8, 12 .. of p and e each
        due("who LIES, no PLACE off", x.ask(0), 1);
        due("three", x.ask(1), 3);
    }

    private static void askOfFew() {
        asks(22, "10 times d, and 1 if he LIES: the least; how many");
        SauceredMilk one = new SauceredMilk();
        one.seen(0, true, 45);
        due("one is so: the least", one.ask(0), 0);
        due("one", one.ask(1), 1);
        SauceredMilk knownPower = new SauceredMilk();
        knownPower.seen(3, false, 9);
        due("SPITE is not known: the least who LIES", knownPower.ask(0), 1);
        due("one", knownPower.ask(1), 1);
        SauceredMilk line = new SauceredMilk();
        line.seen(3, true, 9);
        due("each POWER has its SPITE", line.ask(0), 0);
        due("one", line.ask(1), 1);
    }

    private static void askOfTheLeast() {
        asks(22, "the saucer to look at next, of POWER 0 and SPITE 0 alone: how many are left");
        SauceredMilk x = new SauceredMilk();
        x.seen(2, true, 0);
        due("the least", x.ask(0), 0);
        due("one", x.ask(1), 1);
    }

    private static void askOfNone() {
        asks(22, "NONE: nothing fits");
        SauceredMilk x = new SauceredMilk();
        x.seen(0, true, 99);
        due("what", x.ask(0), NONE);
        due("how many", x.ask(1), NONE);
        x.forget();
        due("again", x.ask(0), 1);
    }

    // ---- promise 23

    private static void jugNumbers() {
        asks(23, "two jugs with a and b (0 to 99) cups");
        edges("a", 0, 99, OUTSIDE, a -> new SauceredMilk().jugs(a, 2, 0));
        edges("b", 0, 99, OUTSIDE, b -> new SauceredMilk().jugs(2, b, 0));
        edges("a, times", 0, 99, OUTSIDE, a -> new SauceredMilk().jugs(a, 99, 1));
        edges("b, times", 0, 99, OUTSIDE, b -> new SauceredMilk().jugs(99, b, 1));
        edges("what", 0, 1, OUTSIDE, what -> new SauceredMilk().jugs(2, 1, what));
    }

    private static void emptyJugs() {
        asks(23, "if one is empty nobody can; who can not has lost (NONE)");
        for (int cups = 0; cups <= 99; cups++) jugsAre(0, cups, NONE);
    }

    private static void alikeJugs() {
        asks(23, "from either, if both are alike");
        for (int cups = 1; cups <= 99; cups++) jugsAre(cups, cups, 1);
    }

    private static void jugsOnce() {
        asks(23, "some times (1 at least) as much as is in the other one: once, when no more can be");
        jugsAre(3, 2, NONE);
        jugsAre(99, 98, NONE);
        jugsAre(5, 3, 1);
        jugsAre(99, 50, 1);
        jugsAre(99, 61, 1);
        jugsAre(99, 62, NONE);
    }

    private static void jugsManyTimes() {
        asks(23, "how many times as much he pours away first for it, the least");
        jugsAre(1, 99, 99);
        jugsAre(1, 2, 2);
        jugsAre(49, 98, 2);
        jugsAre(33, 99, 3);
        jugsAre(49, 99, 1);
        jugsAre(33, 98, 2);
        jugsAre(2, 99, 48);
    }

    private static void fromEither() {
        asks(23, "pour away from the fuller one, whichever it is");
        for (int fuller = 1; fuller <= 99; fuller++) {
            jugsAre(fuller, 1, fuller);
        }
    }

    // ---- promise 24

    private static void oddsNumbers() {
        asks(24, "t tenths (1 to 9), n times (0 to 15), u tenths (1 to 9), k (0 to n); OUTSIDE: t, u, n, k, part");
        edges("t", 1, 9, REFUSED, t -> new SauceredMilk().odds(t, 1, 1, 1, 0));
        edges("u", 1, 9, REFUSED, u -> new SauceredMilk().odds(1, u, 1, 1, 1));
        edges("n", 0, 15, REFUSED, n -> new SauceredMilk().odds(1, 1, n, 0, 0));
        edges("part", 0, 1, REFUSED, part -> new SauceredMilk().odds(1, 1, 1, 1, part));
        for (int n = 0; n <= 15; n++) {
            int times = n;
            edges("k of " + n, 0, n, REFUSED, k -> new SauceredMilk().odds(9, 9, times, k, 1));
        }
        due("none is", new SauceredMilk().odds(0, 0, -1, -1, 2), REFUSED);
    }

    private static void oddsOfNoTime() {
        asks(24, "n times (0 to 15) milk is set before him: no time");
        long[] lowers = {10, 5, 10, 5, 2, 5, 10, 5, 10};
        long[] uppers = {1, 1, 3, 2, 1, 3, 7, 4, 9};
        for (int t = 1; t <= 9; t++) {
            for (int u = 1; u <= 9; u++) oddsAre(t, u, 0, 0, uppers[t - 1], lowers[t - 1]);
        }
    }

    private static void oddsOfEachTime() {
        asks(24, "k (0 to n) went: none, all");
        oddsAre(5, 9, 1, 1, 9, 10);
        oddsAre(5, 9, 1, 0, 1, 10);
        oddsAre(5, 9, 2, 2, 81, 82);
        oddsAre(5, 9, 2, 1, 1, 2);
        oddsAre(5, 9, 2, 0, 1, 82);
        oddsAre(9, 1, 1, 1, 1, 2);
        oddsAre(9, 1, 1, 0, 81, 82);
    }

    private static void lowestTerms() {
        asks(24, "Fractions are told in lowest terms by part: 0 the upper, 1 the lower number");
        for (int n = 0; n <= 15; n++) for (int k = 0; k <= n; k++) oddsAre(4, 5, n, k, 2, 5);
        for (int half = 0; half <= 7; half++) oddsAre(6, 7, 2 * half, half, 3, 5);
        oddsAre(2, 8, 1, 1, 1, 2);
    }

    private static void longestOdds() {
        asks(24, "n times up to 15, t and u up to 9 tenths");
        oddsAre(9, 9, 15, 15, 1853020188851841L, 1853020188851842L);
        oddsAre(1, 1, 15, 15, 1, 1853020188851842L);
        oddsAre(9, 1, 15, 0, 1853020188851841L, 1853020188851842L);
        oddsAre(1, 9, 15, 0, 1, 1853020188851842L);
        // 9 against 9 to the 15th
        oddsAre(9, 1, 15, 15, 1, 22876792454962L);
    }

    // ---- promise 25

    // Seeds by hand: 75 times the seed and 74, left over by 8, tells the ACT, and by 8 (cut) the number with it.
    private static final int[] ON_BY = {893, 2, 1768, 877, 10, 1752, 885, 18, 1760};
    private static final int[] BACK_BY = {1763, 896, 5, 1747, 880, 13, 1755, 888, 21};
    private static final int[] BENDS_OVER = {40, 0, 24, 48, 8, 32, 56, 16};
    private static final int[] FRESH_FOR = {11, 35, 59, 19, 43, 3, 27, 51};
    private static final int[] THINKS_AND_AN_HOUR = {110, 6, 94, 182, 14, 102, 190, 22};
    private static final int[] HOUR_BY_5_6_7 = {17, 52, 23};

    private static void yearNumbers() {
        asks(25, "a seed (0 to 9999) of m ACTS (1 to 99)");
        for (int what = 0; what <= 2; what++) {
            int asked = what;
            edges("seed", 0, 9999, OUTSIDE, seed -> new SauceredMilk().year(seed, 1, asked));
            edges("m", 1, 99, OUTSIDE, m -> new SauceredMilk().year(0, m, asked));
        }
        edges("what", 0, 2, OUTSIDE, what -> new SauceredMilk().year(0, 1, what));
    }

    private static void goesOn() {
        asks(25, "0 HE goes on by 1 PLACE more than y leaves over by 9");
        for (int his = 0; his < 16; his++) {
            SauceredMilk x = new SauceredMilk();
            x.he(his, 3, 5);
            for (int by = 1; by <= 9; by++) {
                due("on by " + by + " from " + his, x.year(ON_BY[by - 1], 1, 2), his + by <= 15 ? his + by : his);
            }
        }
    }

    private static void goesBack() {
        asks(25, "1 back by as many");
        for (int his = 0; his < 16; his++) {
            SauceredMilk x = new SauceredMilk();
            x.he(his, 3, 5);
            for (int by = 1; by <= 9; by++) {
                due("back by " + by + " from " + his, x.year(BACK_BY[by - 1], 1, 2), his >= by ? his - by : his);
            }
        }
    }

    /** All at HIS PLACE, who LIE or not; each saucer would lose something in an hour. */
    private static SauceredMilk all(int cream, boolean lies, int power, int spite) {
        SauceredMilk x = new SauceredMilk();
        x.he(7, power, spite);
        for (int witness = 0; witness < 8; witness++) x.witness(witness, 7, lies, cream);
        return x;
    }

    private static void bendsOver() {
        asks(25, "2 HE bends over WITNESS y left over by 8");
        for (int witness = 0; witness < 8; witness++) {
            due("cream in all", all(9, false, 4, 9).year(BENDS_OVER[witness], 1, 1), 64);
            due("none OFF", all(9, false, 4, 9).year(BENDS_OVER[witness], 1, 0), 0);
            due("one OFF", all(8, false, 4, 9).year(BENDS_OVER[witness], 1, 0), 1);
            SauceredMilk x = all(1, false, 4, 9);
            x.witness(witness, 6, true, 99);
            due("that one", x.year(BENDS_OVER[witness], 1, 1), 99 - 8 - 27 + 7);
        }
    }

    private static void freshMilkFor() {
        asks(25, "3 fresh milk for that one");
        for (int witness = 0; witness < 8; witness++) {
            SauceredMilk x = all(0, false, 4, 9);
            due("one has 50", x.year(FRESH_FOR[witness], 1, 1), 50);
            due("seven are OFF", x.year(FRESH_FOR[witness], 1, 0), 7);
            x.witness(witness, 0, true, 49);
            due("49 becomes 50", x.year(FRESH_FOR[witness], 1, 1), 50);
            x.witness(witness, 0, true, 50);
            due("50 stays", x.year(FRESH_FOR[witness], 1, 1), 50);
            x.witness(witness, 0, true, 51);
            due("51 stays", x.year(FRESH_FOR[witness], 1, 1), 51);
        }
    }

    private static void thinksAgain() {
        asks(25, "4 he thinks again");
        for (int witness = 0; witness < 8; witness++) {
            SauceredMilk x = all(10, false, 0, 3);
            due("he alone loses in the hour", x.year(THINKS_AND_AN_HOUR[witness], 2, 1), 77);
            SauceredMilk liars = all(10, true, 0, 3);
            due("he alone loses nothing", liars.year(THINKS_AND_AN_HOUR[witness], 2, 1), 80 - 21);
            due("no hour yet", liars.year(THINKS_AND_AN_HOUR[witness], 1, 1), 80);
        }
    }

    private static void anHourGoes() {
        asks(25, "5 to 7 an hour");
        for (int seed : HOUR_BY_5_6_7) {
            due("each loses 4 and 2", all(10, true, 1, 2).year(seed, 1, 1), 32);
            due("all OFF", all(6, true, 1, 2).year(seed, 1, 0), 8);
            due("none OFF", all(7, true, 1, 2).year(seed, 1, 0), 0);
        }
    }

    private static void eachIfThatCanBe() {
        asks(25, "each if that can be");
        SauceredMilk nobody = new SauceredMilk();
        for (int witness = 0; witness < 8; witness++) {
            due("nobody to bend over", nobody.year(BENDS_OVER[witness], 1, 1), 0);
            due("nobody for fresh milk", nobody.year(FRESH_FOR[witness], 1, 1), 0);
            due("nobody is OFF", nobody.year(FRESH_FOR[witness], 1, 0), 0);
        }
        SauceredMilk x = new SauceredMilk();
        x.he(7, 9, 9);
        int[] places = {4, 5, 6, 7, 8, 9, 10};
        for (int place : places) {
            x.witness(0, place, true, 99);
            boolean near = place >= 6 && place <= 8;
            due("HE bends over to " + place, x.year(BENDS_OVER[0], 1, 1), near ? 54 : 99);
        }
        x.witness(0, 7, true, 0);
        due("OFF already", x.year(BENDS_OVER[0], 1, 0), 1);
    }

    private static void lastHourOfAYear() {
        asks(25, "an hour, if that can be: not at hour 99");
        SauceredMilk last = atHour(99);
        last.witness(0, 0, false, 99);
        SauceredMilk before = atHour(98);
        before.witness(0, 0, false, 99);
        for (int seed : HOUR_BY_5_6_7) {
            due("hour 99", last.year(seed, 1, 1), 99);
            due("hour 98", before.year(seed, 1, 1), 87);
        }
        // 23 begins with four hours
        due("two hours from 98", before.year(23, 2, 1), 87);
        due("four hours from 98", before.year(23, 4, 1), 87);
        SauceredMilk first = new SauceredMilk();
        first.witness(0, 0, false, 99);
        due("four hours from 0", first.year(23, 4, 1), 99 - 4 * 12);
    }

    private static void leftOverBy() {
        asks(25, "x becomes (75 x and 74) left over by 65537");
        // 872 becomes 65474: HE bends over A; 873 becomes 12: B thinks again, then 974: an hour
        SauceredMilk x = all(10, false, 0, 3);
        due("an hour of B alone lying", x.year(873, 2, 1), 77);
        due("bent over A", all(10, false, 4, 3).year(872, 1, 1), 72);
    }

    private static void mostActs() {
        asks(25, "m ACTS (1 to 99)");
        SauceredMilk x = threeWitnesses();
        due("OFF by 99 ACTS", x.year(77, 99, 0), 3);
        due("cream by 99 ACTS", x.year(77, 99, 1), 0);
        due("HIS PLACE by 99 ACTS", x.year(77, 99, 2), 4);
        // 0: bends over B, then on by 2
        due("one ACT", new SauceredMilk().year(0, 1, 2), 0);
        due("two ACTS", new SauceredMilk().year(0, 2, 2), 2);
    }

    private static void notDoneInFact() {
        asks(25, "Nothing is DONE in fact");
        SauceredMilk x = threeWitnesses();
        write(x, "..A");
        for (int seed = 0; seed < 60; seed++) x.year(seed, 99, seed % 3);
        toldIs(x, 0, 3, 7, 4, 0, 3, 5, 0, 0, 0);
        toldIs(x, 100, 2, 1, 50);
        toldIs(x, 110, 3, 0, 40);
        toldIs(x, 120, 9, 1, 0);
        due("the FAULT stays", x.fault(), 3);
    }

    private static void fromAllAsItIs() {
        asks(25, "from all as it is");
        SauceredMilk x = all(99, true, 9, 9);
        due("an hour", x.year(7, 1, 1), 8 * 54);
        write(x, ".");
        due("what is on the PAD does not matter", x.year(7, 1, 1), 8 * 54);
        x.done();
        due("what is DONE does", x.year(7, 1, 1), 8 * 9);
        due("again", x.year(7, 1, 1), 8 * 9);
    }

    // ---- promise 26

    private static void imageNumbers() {
        asks(26, "an IMAGE (0, 1): 1. OUTSIDE");
        edges("image", 0, 1, OUTSIDE, n -> new SauceredMilk().image(n));
        due("image 0", new SauceredMilk().image(0), 1);
        due("image 1", new SauceredMilk().image(1), 1);
    }

    private static void keptAnew() {
        asks(26, "is kept in an IMAGE (0, 1), each by itself, and anew");
        SauceredMilk x = new SauceredMilk();
        x.milk(1);
        x.image(0);
        x.milk(2);
        x.image(1);
        x.milk(3);
        x.restore(0);
        due("as kept first", x.told(7), 1);
        x.restore(1);
        due("as kept second", x.told(7), 2);
        x.image(0);
        x.milk(4);
        x.restore(0);
        due("as kept anew", x.told(7), 2);
        x.milk(5);
        x.image(1);
        x.restore(0);
        due("the other one stays", x.told(7), 2);
        x.restore(1);
        due("it is not taken back with what is restored", x.told(7), 5);
    }

    private static void allButThePad() {
        asks(26, "All but the PAD is kept");
        SauceredMilk x = threeWitnesses();
        write(x, "x");
        x.image(0);
        write(x, "..");
        x.restore(0);
        due("signs", x.told(0), 2);
        due("no FAULT", x.fault(), NONE);
        due("they are DONE", x.done(), 2);
        x.restore(0);
        due("no signs", x.told(0), 0);
        due("the hour is back", x.told(6), 0);
        due("the first one is there", x.lasts(0), 5);
    }

    // ---- promise 27

    private static void restoreNumbers() {
        asks(27, "OUTSIDE; STATE: it was not");
        SauceredMilk kept = new SauceredMilk();
        kept.image(0);
        kept.image(1);
        edges("restore", 0, 1, OUTSIDE, kept::restore);
        due("OUTSIDE ahead of STATE", new SauceredMilk().restore(2), OUTSIDE);
        due("OUTSIDE ahead of STATE", new SauceredMilk().restore(-1), OUTSIDE);
    }

    private static void notKept() {
        asks(27, "STATE: it was not");
        SauceredMilk x = new SauceredMilk();
        due("neither", x.restore(0), STATE);
        due("neither", x.restore(1), STATE);
        x.image(2);
        due("nor by a refused one", x.restore(1), STATE);
        x.image(1);
        due("not the other one", x.restore(0), STATE);
        due("this one", x.restore(1), 1);
        due("not by that", x.restore(0), STATE);
        x.image(0);
        due("both", x.restore(0), 1);
    }

    private static void restoredTwice() {
        asks(27, "It is as it was when it was kept");
        SauceredMilk x = new SauceredMilk();
        x.image(0);
        for (int round = 0; round < 3; round++) {
            for (int witness = 0; witness < 8; witness++) x.witness(witness, 15, true, 99);
            x.he(15, 9, 9);
            x.way(0, 11, true);
            x.milk(4095);
            x.seen(0, true, 99);
            hours(x, 40);
            due("restored", x.restore(0), 1);
            toldIs(x, 0, 0, 0, 0, 0, 3, 5, 0, 0, 0);
            due("no WITNESS", x.told(100), OUTSIDE);
            toldIs(x, 10, 0);
            toldIs(x, 21, 0);
            due("all so", x.so(-1), 100);
            due("the first WITNESS", x.witness(7, 0, false, 0), 1);
            x.restore(0);
        }
    }

    private static void sightsRestored() {
        asks(27, "It is as it was when it was kept: SIGHTS, from one to eight");
        SauceredMilk x = new SauceredMilk();
        x.seen(0, false, 8);
        x.image(0);
        for (int i = 2; i <= 8; i++) x.seen(1, true, 10);
        x.image(1);
        for (int round = 0; round < 2; round++) {
            x.forget();
            for (int i = 0; i < 8; i++) x.seen(3, false, 9);
            due("POWER 9", x.so(0), 90);
            due("restored", x.restore(0), 1);
            due("one SIGHT", x.told(8), 1);
            due("POWER 2", x.so(0), 20);
            due("and any SPITE", x.so(-1), 10);
            due("restored", x.restore(1), 1);
            due("eight SIGHTS", x.told(8), 8);
            due("POWER 2 and SPITE 4", x.so(0), 24);
            due("alone", x.so(-1), 1);
            due("no ninth", x.seen(0, false, 8), FULL);
        }
    }

    // ---- promise 28

    private static void toldNumbers() {
        asks(28, "told: OUTSIDE");
        int[] outside = {-1, -2, -100, Integer.MIN_VALUE, 9, 22, 23, 31, 32, 42, 99, 103, 109, 113, 173, 179, 180, 181, 182,
            190, 200, 256, 300, 1000, 65536, Integer.MAX_VALUE, Integer.MAX_VALUE - 7, Integer.MIN_VALUE + 100};
        SauceredMilk x = all(1, true, 1, 1);
        for (int what : outside) due("told(" + what + ")", x.told(what), OUTSIDE);
        for (int what = 0; what <= 8; what++) due("told(" + what + ") is", x.told(what) >= 0 ? 1 : 0, 1);
        for (int what = 10; what <= 21; what++) due("told(" + what + ") is", x.told(what), 0);
        for (int witness = 0; witness < 8; witness++) toldIs(x, 100 + 10 * witness, 7, 1, 1, OUTSIDE);
    }

    private static void toldAtTheLeast() {
        asks(28, "a WITNESS that is there");
        SauceredMilk x = new SauceredMilk();
        for (int what = 100; what < 190; what++) due("told(" + what + ")", x.told(what), OUTSIDE);
        x.witness(7, 0, false, 0);
        for (int what = 100; what < 190; what++) {
            due("told(" + what + ")", x.told(what), what >= 170 && what <= 172 ? 0 : OUTSIDE);
        }
        write(x, "H!");
        due("there yet", x.told(170), 0);
        x.done();
        due("let go", x.told(170), OUTSIDE);
    }

    private static void toldAtTheMost() {
        asks(28, "0 signs, 1 WITNESSES (bits) ... 8 SIGHTS; 10 and a CELL: WAYS (bits), all as much as can be");
        SauceredMilk x = atHour(99);
        for (int witness = 0; witness < 8; witness++) x.witness(witness, 15, true, 0);
        x.he(15, 9, 9);
        x.milk(4095);
        for (int i = 0; i < 8; i++) x.seen(3, true, 99);
        for (int cell = 0; cell < 11; cell++) x.way(11, cell, true);
        write(x, "~".repeat(60));
        toldIs(x, 0, 60, 255, 255, 15, 9, 9, 99, 4095, 8, OUTSIDE);
        toldIs(x, 20, 2048, 2047, OUTSIDE);
        x.witness(7, 15, true, 99);
        toldIs(x, 170, 15, 1, 99, OUTSIDE);
    }
}
