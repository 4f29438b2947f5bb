/** Each promise by answers reckoned by hand from the document: ordinary inputs, its edges, wrong inputs. */
public final class PromiseTests extends Checks {
    private static final int[] FAR_OUT = {-1, Integer.MIN_VALUE, Integer.MAX_VALUE};

    public static void main(String[] args) {
        promise1(); promise2(); promise3(); promise4(); promise5(); promise6(); promise7();
        promise8(); promise9(); promise10(); promise11(); promise12(); promise13();
        promise14(); promise15(); promise16(); promise17(); promise18();
        promise19(); promise20(); promise21(); promise22(); promise23(); promise24(); promise25();
        promise26(); promise27(); promise28();
        constants();
        end();
    }

    private static void constants() {
        asks(0, "");
        due("NONE", SauceredMilk.NONE, NONE);
        due("UNKNOWN", SauceredMilk.UNKNOWN, UNKNOWN);
        due("OUTSIDE", SauceredMilk.OUTSIDE, OUTSIDE);
        due("STATE", SauceredMilk.STATE, STATE);
        due("FULL", SauceredMilk.FULL, FULL);
        due("NO", SauceredMilk.NO, NO);
        due("LOST", SauceredMilk.LOST, -1000000000000000000L);
    }

    private static void promise1() {
        asks(1, "");
        SauceredMilk x = new SauceredMilk();
        toldIs(x, 0, 0, 0, 0, 0, 3, 5, 0, 0, 0, OUTSIDE);
        toldIs(x, 10, 0, 0, 0, 0, 0, 0, 0, 0, 0, 0, 0, 0, OUTSIDE);
        for (int witness = 0; witness < 8; witness++) due("behind", x.behind(witness, 0), UNKNOWN);
        due("fault", x.fault(), NONE);
        due("restore 0", x.restore(0), STATE);
        due("restore 1", x.restore(1), STATE);
        due("so", x.so(-1), 100);
    }

    private static void promise2() {
        asks(2, "");
        SauceredMilk x = new SauceredMilk();
        due("first", x.witness(3, 15, true, 99), 1);
        due("second", x.witness(7, 0, false, 0), 2);
        due("third", x.witness(0, 0, true, 1), 3);
        toldIs(x, 1, 0b10001001, 0b10000000);
        toldIs(x, 130, 15, 1, 99);
        due("anew", x.witness(3, 4, false, 7), 3);
        toldIs(x, 130, 4, 0, 7);
        due("anew, lying", x.witness(7, 1, true, 5), 3);
        toldIs(x, 170, 1, 1, 5);
        due("no such witness", x.witness(8, 0, true, 0), UNKNOWN);
        due("UNKNOWN ahead of OUTSIDE", x.witness(-1, 16, true, 100), UNKNOWN);
        due("place 16", x.witness(1, 16, true, 0), OUTSIDE);
        due("place -1", x.witness(1, -1, true, 0), OUTSIDE);
        due("cream 100", x.witness(1, 0, true, 100), OUTSIDE);
        due("cream -1", x.witness(1, 0, true, -1), OUTSIDE);
        for (int far : FAR_OUT) {
            due("far witness", x.witness(far, 0, true, 0), UNKNOWN);
            due("far place", x.witness(0, far, true, 0), OUTSIDE);
            due("far cream", x.witness(0, 0, true, far), OUTSIDE);
        }
        due("refusals change nothing", x.told(1), 0b10001001);
        for (int witness = 0; witness < 8; witness++) x.witness(witness, witness, false, 10);
        due("all eight", x.told(1), 255);
    }

    private static void promise3() {
        asks(3, "");
        SauceredMilk x = new SauceredMilk();
        due("as at first", x.he(15, 9, 8), 35);
        toldIs(x, 3, 15, 9, 8);
        due("as set", x.he(0, 0, 0), 1598);
        due("zeros", x.he(7, 1, 2), 0);
        due("place 16", x.he(16, 0, 0), OUTSIDE);
        due("power 10", x.he(0, 10, 0), OUTSIDE);
        due("spite 10", x.he(0, 0, 10), OUTSIDE);
        for (int far : FAR_OUT) {
            due("far place", x.he(far, 0, 0), OUTSIDE);
            due("far power", x.he(0, far, 0), OUTSIDE);
            due("far spite", x.he(0, 0, far), OUTSIDE);
        }
        due("refusals change nothing", x.he(3, 9, 9), 712);
        due("three nines", x.he(0, 0, 0), 399);
    }

    private static void promise4() {
        asks(4, "");
        SauceredMilk x = new SauceredMilk();
        due("one", x.way(0, 11, true), 1);
        due("the same, from the other end", x.way(11, 0, true), 1);
        due("two", x.way(4, 3, true), 2);
        due("three", x.way(4, 0, true), 3);
        toldIs(x, 10, 1 << 11 | 1 << 4, 0, 0, 1 << 4, 1 << 3 | 1);
        due("told(21)", x.told(21), 1);
        due("none there", x.way(5, 6, false), 3);
        due("gone, from the other end", x.way(3, 4, false), 2);
        toldIs(x, 13, 0, 1);
        due("one cell", x.way(2, 2, true), UNKNOWN);
        due("one cell, false", x.way(2, 2, false), UNKNOWN);
        due("12", x.way(12, 0, true), UNKNOWN);
        due("12 behind", x.way(0, 12, true), UNKNOWN);
        for (int far : FAR_OUT) {
            due("far a", x.way(far, 0, true), UNKNOWN);
            due("far b", x.way(0, far, true), UNKNOWN);
        }
        due("refusals change nothing", x.way(1, 2, false), 2);
        SauceredMilk full = new SauceredMilk();
        int ways = 0;
        for (int a = 0; a < 12; a++) {
            for (int b = 0; b < a; b++) due("all ways", full.way(a, b, true), ++ways);
        }
        due("told of a full town", full.told(10), 4094);
    }

    private static void promise5() {
        asks(5, "");
        SauceredMilk x = new SauceredMilk();
        due("at first", x.milk(4095), 0);
        due("all", x.milk(5), 4095);
        due("told", x.told(7), 5);
        due("4096", x.milk(4096), OUTSIDE);
        for (int far : FAR_OUT) due("far", x.milk(far), OUTSIDE);
        due("refusals change nothing", x.milk(0), 5);
        due("none", x.milk(0), 0);
    }

    private static void promise6() {
        asks(6, "");
        SauceredMilk x = new SauceredMilk();
        due("32", x.say(32), OUTSIDE);
        due("127", x.say(127), OUTSIDE);
        for (int far : FAR_OUT) due("far", x.say(far), OUTSIDE);
        due("65582, that is 46 as a char", x.say(65582), OUTSIDE);
        due("33", x.say(33), 1);
        due("126", x.say(126), 2);
        for (int i = 3; i <= 60; i++) due("sign " + i, x.say(46), i);
        due("OUTSIDE ahead of FULL", x.say(32), OUTSIDE);
        due("the sixty first", x.say(46), FULL);
        due("refusals change nothing", x.told(0), 60);
        SauceredMilk hours = new SauceredMilk();
        for (int i = 1; i <= 60; i++) hours.say('.');
        due("a full PAD of hours", hours.fault(), NONE);
        due("sixty hours", hours.done(), 60);
    }

    private static void promise7() {
        asks(7, "");
        SauceredMilk x = new SauceredMilk();
        due("empty", x.wipe(), 0);
        write(x, "..x");
        due("three", x.wipe(), 3);
        due("they went", x.wipe(), 0);
        due("no signs", x.told(0), 0);
        due("no fault", x.fault(), NONE);
        due("anew", x.say('.'), 1);
        due("nothing of the old", x.fault(), NONE);
    }

    private static void faultIs(String terms, int want) {
        SauceredMilk x = new SauceredMilk();
        write(x, terms);
        due("fault of " + terms, x.fault(), want);
        due("judge of " + terms, x.judge(0) == NO ? 1 : 0, want == NONE ? 0 : 1);
    }

    private static void promise8() {
        asks(8, "");
        String[] fine = {"", ".", "...", ">1", ">9", "<1", "<9", "A?", "A=", "A~", "A!", "H?", "H!", ">5A?.<5H=."};
        for (String terms : fine) faultIs(terms, NONE);
        String[] wants = {">", "<", "A", "H"};
        for (String terms : wants) faultIs(terms, 1);
        faultIs(".>9H!D", 6);
        String[] first = {"I", "I?", "@?", "a?", "!", "?", "=", "~", "1", "/", "x."};
        for (String terms : first) faultIs(terms, 0);
        String[] second = {">0", ">:", ">A", "<0", "<>", ">.", "A.", "AA", "A1", "A>", "H@", "B<", "C}", "C\""};
        for (String terms : second) faultIs(terms, 1);
        faultIs("..x", 2);
        faultIs(">1>", 3);
        faultIs(">10", 2);
        faultIs("A??", 2);
        faultIs("A?A", 3);
        faultIs("A?Axx", 3);
    }

    private static void promise9() {
        asks(9, "");
        SauceredMilk x = threeWitnesses();
        judged(x, "", NONE, NONE);
        judged(x, ".", NONE, NONE);
        judged(x, "D?", 0, 1);
        judged(x, ".D=", 1, 1);
        judged(x, "..D~", 2, 1);
        judged(x, "D!", 0, 1);
        judged(x, "A!A!", 1, 1);
        judged(x, ">9>6", NONE, NONE);
        judged(x, ">9>7", 1, 2);
        judged(x, "<1", 0, 2);
        judged(x, ">1<1<1", 2, 2);
        judged(x, ">1A?", NONE, NONE);
        judged(x, "A?", 0, 3);
        judged(x, ">3A?", NONE, NONE);
        judged(x, ">4A?", 1, 3);
        judged(x, ">9C?", 1, 4);
        judged(x, "C?", 0, 3);
        judged(x, "A=", 0, 4);
        judged(x, ".A=", NONE, NONE);
        judged(x, "B=B=", 1, 4);
        judged(x, "C=>8C?C?C?C?", 5, 4);
        judged(x, "D?<1", 0, 1);
        write(x, "<1D?");
        due("no such act", x.judge(2), OUTSIDE);
        for (int far : FAR_OUT) due("far", x.judge(far), OUTSIDE);
        write(x, "<");
        due("OUTSIDE ahead of NO", x.judge(2), OUTSIDE);
        due("a FAULT", x.judge(0), NO);
        due("a FAULT", x.judge(1), NO);
        due("nothing changed", x.told(3), 0);
        judgedByCream(49, NONE);
        judgedByCream(50, 0);
        judgedByHour();
    }

    private static void judgedByCream(int cream, int want) {
        SauceredMilk x = new SauceredMilk();
        x.witness(7, 0, false, cream);
        write(x, "H=");
        due("fresh milk on " + cream, x.judge(0), want);
    }

    private static void judgedByHour() {
        SauceredMilk x = new SauceredMilk();
        hours(x, 60);
        hours(x, 38);
        due("hour", x.told(6), 98);
        judged(x, ".", NONE, NONE);
        judged(x, "..", 1, 5);
        hours(x, 1);
        due("hour", x.told(6), 99);
        judged(x, ".", 0, 5);
        judged(x, ">1<1", NONE, NONE);
    }

    private static void promise10() {
        asks(10, "");
        SauceredMilk x = threeWitnesses();
        due("an empty PAD", x.done(), 0);
        write(x, ".>2A~.A!B=C=");
        due("eight acts", x.done(), 7);
        due("the PAD is empty", x.told(0), 0);
        toldIs(x, 1, 0b110, 0, 2, 3, 5, 2);
        toldIs(x, 110, 3, 0, 50);
        toldIs(x, 120, 9, 1, 50);
        due("A is no more", x.told(100), OUTSIDE);
        write(x, ".<");
        due("a FAULT", x.done(), NO);
        due("the PAD stays", x.told(0), 2);
        write(x, ".<9");
        due("an ACT that can not be", x.done(), NO);
        due("the PAD stays", x.told(0), 3);
        toldIs(x, 110, 3, 0, 50);
        due("the hour stays", x.told(6), 2);
        due("how many are there", x.witness(0, 0, false, 0), 3);
        bendingTakes();
        anHourTakes();
    }

    private static void bendingTakes() {
        SauceredMilk x = new SauceredMilk();
        x.he(5, 4, 7);
        x.witness(0, 4, true, 80);
        x.witness(1, 6, false, 80);
        x.witness(2, 5, true, 28);
        write(x, "A?B?B?C?");
        due("bending", x.done(), 4);
        due("2 times 4 and 3 times 7", x.told(102), 51);
        due("twice 2 times 4", x.told(112), 64);
        due("0 at least", x.told(122), 0);
    }

    private static void anHourTakes() {
        SauceredMilk x = new SauceredMilk();
        x.he(7, 5, 3);
        for (int witness = 0; witness < 8; witness++) x.witness(witness, witness + 3, witness % 2 == 1, 90);
        write(x, ".");
        due("an hour", x.done(), 1);
        int[] losses = {0, 8, 10, 18, 20, 18, 10, 8};
        for (int witness = 0; witness < 8; witness++) {
            due("loss of " + witness, 90 - x.told(102 + 10 * witness), losses[witness]);
        }
    }

    private static void promise11() {
        asks(11, "");
        SauceredMilk x = threeWitnesses();
        due("an empty PAD", x.behind(0, 0), 50);
        due("an empty PAD", x.behind(0, 1), 1);
        write(x, "A~.C=");
        due("cream", x.behind(0, 0), 44);
        due("he does not lie any more", x.behind(0, 1), 0);
        due("fresh", x.behind(2, 0), 50);
        due("as ever", x.behind(1, 1), 0);
        due("not in fact", x.told(102), 50);
        due("not in fact", x.told(101), 1);
        due("not there", x.behind(3, 0), UNKNOWN);
        due("no such witness", x.behind(8, 0), UNKNOWN);
        due("UNKNOWN ahead of OUTSIDE", x.behind(3, 2), UNKNOWN);
        due("no such question", x.behind(0, 2), OUTSIDE);
        for (int far : FAR_OUT) {
            due("far witness", x.behind(far, 0), UNKNOWN);
            due("far question", x.behind(0, far), OUTSIDE);
        }
        write(x, "A!");
        due("let go", x.behind(0, 0), NONE);
        due("let go", x.behind(0, 1), NONE);
        due("not let go", x.behind(1, 0), 40);
        write(x, "A!<");
        due("a FAULT", x.behind(0, 0), NO);
        due("UNKNOWN ahead of NO", x.behind(4, 0), UNKNOWN);
        due("OUTSIDE ahead of NO", x.behind(0, 2), OUTSIDE);
        write(x, "A!<1");
        due("can not be", x.behind(0, 1), NO);
        write(x, "A!");
        x.done();
        due("he is not there now", x.behind(0, 0), UNKNOWN);
    }

    private static void promise12() {
        asks(12, "");
        SauceredMilk x = threeWitnesses();
        thenIs(x, 4, 1, 0, 0, 0, NONE, NONE);
        write(x, ">2A?A?A?");
        // 50 less 21 is 29, 8, then 0
        thenIs(x, 0b101, 0, 0, 2, 0, 3, 0);
        write(x, ">2B~B?B?.");
        // 40 less 21 is 19, then 0 behind act 3
        thenIs(x, 0b110, 1, 0, 2, 1, 3, 1);
        write(x, "C~");
        thenIs(x, 4, 1, 1, 0, 0, NONE, NONE);
        write(x, "C!");
        thenIs(x, 0, 1, 0, 0, 0, NONE, NONE);
        x.witness(5, 2, false, 6);
        x.witness(4, 2, false, 6);
        write(x, ".");
        thenIs(x, 0b110100, 1, 2, 0, 1, 0, 4);
        write(x, ".E!");
        thenIs(x, 0b100100, 1, 1, 0, 1, 0, 4);
        write(x, "E!.");
        thenIs(x, 0b100100, 1, 1, 0, 1, 1, 5);
        due("no such question", x.then(7), OUTSIDE);
        for (int far : FAR_OUT) due("far", x.then(far), OUTSIDE);
        due("nothing changed", x.told(6), 0);
        write(x, "E!E");
        due("OUTSIDE ahead of NO", x.then(7), OUTSIDE);
        for (int what = 0; what < 7; what++) due("a FAULT", x.then(what), NO);
        write(x, "E!E!");
        for (int what = 0; what < 7; what++) due("can not be", x.then(what), NO);
        offAgain();
    }

    /** A saucer that was OFF at first, had fresh milk and is OFF again, is OFF that was not. */
    private static void offAgain() {
        SauceredMilk x = new SauceredMilk();
        x.he(0, 9, 9);
        x.witness(6, 0, true, 0);
        write(x, ".G=..");
        thenIs(x, 64, 0, 0, 0, 3, 3, 6);
    }

    private static void lastsFor(int hisPlace, int power, int spite, int place, boolean lies, int cream, int want) {
        SauceredMilk x = new SauceredMilk();
        x.he(hisPlace, power, spite);
        x.witness(6, place, lies, cream);
        due("lasts", x.lasts(6), want);
    }

    private static void promise13() {
        asks(13, "");
        lastsFor(0, 3, 5, 2, true, 50, 5);
        lastsFor(0, 3, 5, 3, false, 40, 14);
        lastsFor(0, 3, 5, 4, true, 40, NONE);
        lastsFor(0, 3, 5, 9, true, 0, 0);
        lastsFor(0, 0, 5, 0, false, 1, NONE);
        lastsFor(0, 0, 5, 0, false, 0, 0);
        lastsFor(0, 0, 5, 0, true, 10, 2);
        lastsFor(0, 0, 5, 0, true, 11, 3);
        lastsFor(15, 1, 0, 12, false, 99, 99);
        lastsFor(15, 9, 9, 15, true, 99, 3);
        lastsFor(9, 9, 9, 5, true, 1, NONE);
        lastsFor(9, 0, 0, 9, true, 1, NONE);
        SauceredMilk x = new SauceredMilk();
        x.witness(0, 3, false, 99);
        x.he(0, 1, 0);
        hours(x, 60);
        due("hours left over", x.lasts(0), 39);
        hours(x, 39);
        due("it is off", x.lasts(0), 0);
        x.witness(0, 3, false, 99);
        due("beyond hour 99", x.lasts(0), 99);
        due("not there", x.lasts(1), UNKNOWN);
        due("no such witness", x.lasts(8), UNKNOWN);
        for (int far : FAR_OUT) due("far", x.lasts(far), UNKNOWN);
    }

    private static void promise14() {
        asks(14, "");
        trialsAre(1, 1, 0, NONE);
        trialsAre(1, 20, 0, NONE);
        trialsAre(2, 20, 1, 1);
        trialsAre(5, 1, 4, 1);
        trialsAre(6, 2, 3, 2);
        trialsAre(7, 2, 4, 1);
        trialsAre(16, 20, 4, 8);
        trialsAre(17, 20, 5, 1);
        trialsAre(40, 20, 6, 8);
        trialsAre(52, 20, 6, 20);
        trialsAre(53, 20, 7, 1);
        trialsAre(99, 2, 50, 1);
        SauceredMilk x = new SauceredMilk();
        due("a large one first", x.trials(99, 1, 0), 98);
        due("then a small one", x.trials(9, 20, 0), 4);
        due("then another k", x.trials(9, 2, 0), 5);
        due("n 0", x.trials(0, 1, 0), OUTSIDE);
        due("n 100", x.trials(100, 1, 0), OUTSIDE);
        due("k 0", x.trials(1, 0, 0), OUTSIDE);
        due("k 21", x.trials(1, 21, 0), OUTSIDE);
        due("what 2", x.trials(1, 1, 2), OUTSIDE);
        for (int far : FAR_OUT) {
            due("far n", x.trials(far, 1, 0), OUTSIDE);
            due("far k", x.trials(1, far, 0), OUTSIDE);
            due("far what", x.trials(1, 1, far), OUTSIDE);
        }
    }

    /** A ring of six: a b c d e f a, and g by itself. */
    private static SauceredMilk ring() {
        SauceredMilk x = new SauceredMilk();
        for (int cell = 0; cell < 6; cell++) x.way(cell, (cell + 1) % 6, true);
        return x;
    }

    private static void promise15() {
        asks(15, "");
        SauceredMilk x = ring();
        roundIs(x, 0, 0, 0, NONE);
        roundIs(x, 0, 1, 1, 1);
        roundIs(x, 0, 3, 3, 1);
        roundIs(x, 3, 0, 3, 2);
        roundIs(x, 0, 4, 2, 5);
        roundIs(x, 0, 6, NONE, NONE);
        roundIs(x, 6, 6, 0, NONE);
        x.way(1, 6, true);
        x.milk(1 << 6);
        roundIs(x, 0, 2, 4, 5);
        roundIs(x, 1, 1, NONE, NONE);
        roundIs(x, 0, 1, NONE, NONE);
        roundIs(x, 1, 2, NONE, NONE);
        roundIs(x, 6, 6, NONE, NONE);
        x.way(5, 11, true);
        roundIs(x, 11, 4, 2, 5);
        x.milk(1 << 6 | 1 << 11);
        roundIs(x, 0, 2, NONE, NONE);
        roundIs(x, 2, 4, 2, 3);
        x.milk(0);
        due("no cell", x.round(12, 0, 0), UNKNOWN);
        due("no cell", x.round(0, 12, 0), UNKNOWN);
        due("UNKNOWN ahead of OUTSIDE", x.round(0, -1, 2), UNKNOWN);
        due("what 2", x.round(0, 1, 2), OUTSIDE);
        for (int far : FAR_OUT) {
            due("far from", x.round(far, 0, 0), UNKNOWN);
            due("far to", x.round(0, far, 0), UNKNOWN);
            due("far what", x.round(0, 1, far), OUTSIDE);
        }
        longestWay();
    }

    private static void longestWay() {
        SauceredMilk x = new SauceredMilk();
        for (int cell = 0; cell < 11; cell++) x.way(cell, cell + 1, true);
        roundIs(x, 0, 11, 11, 1);
        roundIs(x, 11, 0, 11, 10);
    }

    private static void promise16() {
        asks(16, "");
        SauceredMilk x = ring();
        shunIs(x, 0, 3, 0, 0);
        x.way(1, 10, true);
        x.way(4, 7, true);
        x.milk(1 << 10 | 1 << 7);
        // b is beside k and e beside h: one of the two must be emptied, h being less as bits
        shunIs(x, 0, 3, 1, 1 << 7);
        shunIs(x, 0, 2, 1, 1 << 7);
        shunIs(x, 0, 1, 1, 1 << 10);
        shunIs(x, 10, 7, 2, 1 << 10 | 1 << 7);
        shunIs(x, 5, 5, 0, 0);
        x.milk(1 << 10 | 1 << 7 | 1 << 3);
        shunIs(x, 2, 0, 2, 1 << 7 | 1 << 3);
        shunIs(x, 2, 1, 2, 1 << 10 | 1 << 3);
        x.way(4, 6, true);
        x.milk(1 << 10 | 1 << 7 | 1 << 6);
        due("few ahead of least", x.shun(0, 3, 1), 1 << 10);
        x.way(4, 6, false);
        x.milk(4095);
        shunIs(x, 8, 8, 1, 1 << 8);
        shunIs(x, 0, 1, 5, 1 | 1 << 1 | 1 << 2 | 1 << 5 | 1 << 10);
        due("round and back the same", x.shun(1, 0, 1), x.shun(0, 1, 1));
        due("no way at all", x.shun(0, 9, 0), NONE);
        due("no way at all", x.shun(0, 9, 1), NONE);
        due("the milk stays", x.told(7), 4095);
        due("no cell", x.shun(12, 0, 0), UNKNOWN);
        due("no cell", x.shun(0, 12, 0), UNKNOWN);
        due("UNKNOWN ahead of OUTSIDE", x.shun(0, 12, 2), UNKNOWN);
        due("what 2", x.shun(0, 0, 2), OUTSIDE);
        for (int far : FAR_OUT) {
            due("far from", x.shun(far, 0, 0), UNKNOWN);
            due("far to", x.shun(0, far, 0), UNKNOWN);
            due("far what", x.shun(0, 0, far), OUTSIDE);
        }
    }

    private static void promise17() {
        asks(17, "");
        SauceredMilk x = new SauceredMilk();
        int[] ofFive = {1, 5, 6, 1, 0, 0};
        for (int j = 0; j <= 5; j++) due("apart(5, " + j + ")", x.apart(5, j), ofFive[j]);
        due("none of none", x.apart(0, 0), 1);
        due("one of one", x.apart(1, 1), 1);
        due("two of two", x.apart(2, 2), 0);
        due("the full row", x.apart(40, 20), 21);
        due("too many", x.apart(40, 21), 0);
        due("30 over 11, left over", x.apart(40, 11), 54627300 % 1000007);
        due("29 over 12, left over", x.apart(40, 12), 51895935 % 1000007);
        due("22 over 6, not left over", x.apart(27, 6), 74613);
        due("n 41", x.apart(41, 0), OUTSIDE);
        due("j above n", x.apart(3, 4), OUTSIDE);
        due("j below 0", x.apart(3, -1), OUTSIDE);
        for (int far : FAR_OUT) {
            due("far n", x.apart(far, 0), OUTSIDE);
            due("far j", x.apart(20, far), OUTSIDE);
        }
    }

    private static void promise18() {
        asks(18, "");
        SauceredMilk x = new SauceredMilk();
        int[] twoOfFive = {0b00101, 0b01001, 0b01010, 0b10001, 0b10010, 0b10100, NONE};
        for (int i = 0; i < twoOfFive.length; i++) due("row(5, 2, " + i + ")", x.row(5, 2, i), twoOfFive[i]);
        due("no saucers", x.row(0, 0, 0), 0);
        due("no saucers", x.row(0, 0, 1), NONE);
        due("none OFF", x.row(25, 0, 0), 0);
        due("none OFF", x.row(25, 0, 1), NONE);
        due("one", x.row(1, 1, 0), 1);
        due("one of 25", x.row(25, 1, 24), 1 << 24);
        due("one of 25", x.row(25, 1, 25), NONE);
        due("13 of 25", x.row(25, 13, 0), 0x1555555);
        due("the first by its bits", x.row(25, 3, 0), 0b10101);
        due("no two side by side", x.row(2, 2, 0), NONE);
        due("the last that is asked for", x.row(25, 8, 43757), 0b1010101010101010000000000);
        due("one more", x.row(25, 8, 43758), NONE);
        due("n 26", x.row(26, 0, 0), OUTSIDE);
        due("j above n", x.row(3, 4, 0), OUTSIDE);
        due("i 99999", x.row(3, 1, 99999), NONE);
        due("i 100000", x.row(3, 1, 100000), OUTSIDE);
        for (int far : FAR_OUT) {
            due("far n", x.row(far, 0, 0), OUTSIDE);
            due("far j", x.row(9, far, 0), OUTSIDE);
            due("far i", x.row(9, 2, far), OUTSIDE);
        }
    }

    private static void promise19() {
        asks(19, "");
        SauceredMilk x = new SauceredMilk();
        due("d 4", x.seen(4, false, 0), OUTSIDE);
        due("v 100", x.seen(0, false, 100), OUTSIDE);
        for (int far : FAR_OUT) {
            due("far d", x.seen(far, true, 0), OUTSIDE);
            due("far v", x.seen(0, true, far), OUTSIDE);
        }
        due("none yet", x.told(8), 0);
        for (int i = 1; i <= 8; i++) due("sight " + i, x.seen(i % 4, i % 2 == 0, 99), i);
        due("OUTSIDE ahead of FULL", x.seen(4, false, 0), OUTSIDE);
        due("the ninth", x.seen(0, false, 0), FULL);
        due("told", x.told(8), 8);
    }

    private static void promise20() {
        asks(20, "");
        SauceredMilk x = new SauceredMilk();
        due("none", x.forget(), 0);
        x.seen(0, false, 1);
        x.seen(0, false, 1);
        due("nothing fits", x.so(-1), 0);
        due("two", x.forget(), 2);
        due("they went", x.forget(), 0);
        due("all fit", x.so(-1), 100);
        due("anew", x.seen(0, false, 4), 1);
        due("only the new one", x.so(-1), 10);
    }

    private static void promise21() {
        asks(21, "");
        SauceredMilk x = new SauceredMilk();
        for (int i = 0; i < 100; i++) due("so(" + i + ")", x.so(i), i);
        due("so(100)", x.so(100), NONE);
        due("so(-2)", x.so(-2), NONE);
        due("so(least)", x.so(Integer.MIN_VALUE), NONE);
        due("so(most)", x.so(Integer.MAX_VALUE), NONE);
        x.seen(3, true, 9);
        due("p and e are nine", x.so(-1), 10);
        for (int p = 0; p < 10; p++) due("rising", x.so(p), 10 * p + 9 - p);
        x.seen(2, true, 13);
        due("only one", x.so(-1), 1);
        due("which", x.so(0), 45);
        due("no second", x.so(1), NONE);
        x.seen(0, false, 17);
        due("none", x.so(-1), 0);
        due("none", x.so(0), NONE);
        x.forget();
        x.seen(1, false, 27);
        due("power nine", x.so(0), 90);
        due("ten", x.so(-1), 10);
        x.forget();
        x.seen(0, true, 45);
        due("both nine", x.so(0), 99);
        due("both nine", x.so(-1), 1);
        x.forget();
        x.seen(0, true, 46);
        due("too much", x.so(-1), 0);
    }

    private static void promise22() {
        asks(22, "");
        SauceredMilk x = new SauceredMilk();
        due("4 p and e", x.ask(0), 1);
        due("three at the most", x.ask(1), 3);
        due("what 2", x.ask(2), OUTSIDE);
        for (int far : FAR_OUT) due("far", x.ask(far), OUTSIDE);
        x.seen(0, false, 12);
        due("one who LIES tells e", x.ask(0), 1);
        due("one is left", x.ask(1), 1);
        x.forget();
        x.seen(0, true, 20);
        due("each p tells e", x.ask(0), 0);
        due("one is left", x.ask(1), 1);
        x.forget();
        x.seen(0, true, 0);
        due("one fits already: the least", x.ask(0), 0);
        due("one", x.ask(1), 1);
        x.seen(0, true, 1);
        due("nothing fits", x.ask(0), NONE);
        due("nothing fits", x.ask(1), NONE);
        due("OUTSIDE ahead of NONE", x.ask(2), OUTSIDE);
    }

    private static void promise23() {
        asks(23, "");
        jugsAre(0, 0, NONE);
        jugsAre(0, 99, NONE);
        jugsAre(99, 0, NONE);
        jugsAre(1, 1, 1);
        jugsAre(99, 99, 1);
        jugsAre(1, 2, 2);
        jugsAre(3, 2, NONE);
        jugsAre(2, 3, NONE);
        jugsAre(5, 2, 1);
        jugsAre(5, 3, 1);
        jugsAre(8, 3, 2);
        jugsAre(3, 11, 3);
        jugsAre(99, 2, 48);
        jugsAre(98, 2, 49);
        jugsAre(6, 3, 2);
        SauceredMilk x = new SauceredMilk();
        due("a 100", x.jugs(100, 0, 0), OUTSIDE);
        due("b 100", x.jugs(0, 100, 0), OUTSIDE);
        due("what 2", x.jugs(1, 1, 2), OUTSIDE);
        for (int far : FAR_OUT) {
            due("far a", x.jugs(far, 1, 0), OUTSIDE);
            due("far b", x.jugs(1, far, 0), OUTSIDE);
            due("far what", x.jugs(1, 1, far), OUTSIDE);
        }
    }

    private static void promise24() {
        asks(24, "");
        oddsAre(5, 5, 15, 7, 1, 2);
        oddsAre(2, 7, 0, 0, 1, 5);
        oddsAre(1, 9, 1, 1, 1, 2);
        oddsAre(1, 9, 1, 0, 1, 82);
        oddsAre(4, 6, 2, 1, 2, 5);
        oddsAre(6, 8, 3, 2, 6, 7);
        oddsAre(9, 9, 15, 15, 1853020188851841L, 1853020188851842L);
        oddsAre(1, 1, 15, 15, 1, 1853020188851842L);
        SauceredMilk x = new SauceredMilk();
        due("t 10", x.odds(10, 1, 1, 1, 0), REFUSED);
        due("t 0", x.odds(0, 1, 1, 1, 0), REFUSED);
        due("u 10", x.odds(1, 10, 1, 1, 0), REFUSED);
        due("u 0", x.odds(1, 0, 1, 1, 0), REFUSED);
        due("n 16", x.odds(1, 1, 16, 1, 0), REFUSED);
        due("k above n", x.odds(1, 1, 3, 4, 0), REFUSED);
        due("part 2", x.odds(1, 1, 3, 3, 2), REFUSED);
        for (int far : FAR_OUT) {
            due("far t", x.odds(far, 1, 1, 1, 0), REFUSED);
            due("far u", x.odds(1, far, 1, 1, 0), REFUSED);
            due("far n", x.odds(1, 1, far, 0, 0), REFUSED);
            due("far k", x.odds(1, 1, 15, far, 0), REFUSED);
            due("far part", x.odds(1, 1, 1, 1, far), REFUSED);
        }
    }

    private static void promise25() {
        asks(25, "");
        SauceredMilk x = threeWitnesses();
        // 0 becomes 74: 74 is 2 more than 72, so HE bends over WITNESS 9 less 8, that is B, who is 3 PLACES off
        due("OFF", x.year(0, 1, 0), 1);
        due("cream", x.year(0, 1, 1), 90);
        due("HIS PLACE", x.year(0, 1, 2), 0);
        x.he(3, 3, 5);
        due("HE is near enough", x.year(0, 1, 1), 84);
        // 2 becomes 224: HE goes on by 1 more than 28 leaves over by 9
        due("on by 2", x.year(2, 1, 2), 5);
        // 7 becomes 599, an hour: A loses 14, B 12
        due("an hour", x.year(7, 1, 1), 64);
        // 1 becomes 149, an hour; then 11249: back by 1406 left over by 9, and 1
        due("an hour, and back by 3", x.year(1, 2, 2), 0);
        due("nothing is DONE", x.told(3), 3);
        due("nothing is DONE", x.told(102), 50);
        due("nothing is DONE", x.told(6), 0);
        due("seed 9999", x.year(9999, 99, 2) >= 0 ? 1 : 0, 1);
        due("seed 10000", x.year(10000, 1, 0), OUTSIDE);
        due("m 0", x.year(0, 0, 0), OUTSIDE);
        due("m 100", x.year(0, 100, 0), OUTSIDE);
        due("what 3", x.year(0, 1, 3), OUTSIDE);
        for (int far : FAR_OUT) {
            due("far seed", x.year(far, 1, 0), OUTSIDE);
            due("far m", x.year(0, far, 0), OUTSIDE);
            due("far what", x.year(0, 1, far), OUTSIDE);
        }
        noHourBehindTheLast();
    }

    private static void noHourBehindTheLast() {
        SauceredMilk x = new SauceredMilk();
        hours(x, 60);
        hours(x, 39);
        x.witness(0, 0, false, 40);
        due("no hour can be", x.year(7, 1, 1), 40);
    }

    private static void promise26() {
        asks(26, "");
        SauceredMilk x = new SauceredMilk();
        due("image 0", x.image(0), 1);
        due("image 1", x.image(1), 1);
        due("image 2", x.image(2), OUTSIDE);
        for (int far : FAR_OUT) due("far", x.image(far), OUTSIDE);
        x.witness(0, 1, true, 2);
        due("kept again", x.image(0), 1);
        due("restored", x.restore(1), 1);
        due("as at first", x.told(1), 0);
        due("restored", x.restore(0), 1);
        due("the later one", x.told(1), 1);
    }

    private static void promise27() {
        asks(27, "");
        SauceredMilk x = threeWitnesses();
        due("never kept", x.restore(0), STATE);
        due("image 2", x.restore(2), OUTSIDE);
        for (int far : FAR_OUT) due("far", x.restore(far), OUTSIDE);
        x.he(4, 2, 1);
        x.way(0, 1, true);
        x.milk(6);
        x.seen(0, false, 8);
        hours(x, 3);
        write(x, "..");
        due("kept", x.image(1), 1);
        due("the other was not", x.restore(0), STATE);
        change(x);
        due("restored", x.restore(1), 1);
        isAsKept(x);
        due("the PAD stays as it is", x.told(0), 3);
        change(x);
        due("restored again", x.restore(1), 1);
        isAsKept(x);
    }

    private static void change(SauceredMilk x) {
        x.wipe();
        x.witness(0, 9, false, 9);
        x.witness(6, 9, true, 9);
        x.way(0, 1, false);
        x.way(3, 2, true);
        x.milk(9);
        x.forget();
        x.seen(3, true, 7);
        x.seen(3, true, 8);
        write(x, "C!B~..");
        due("changed", x.done(), 4);
        x.he(11, 8, 8);
        write(x, ">1.");
    }

    private static void isAsKept(SauceredMilk x) {
        toldIs(x, 1, 7, 4, 4, 2, 1, 3, 6, 1);
        toldIs(x, 10, 2, 1, 0, 0);
        toldIs(x, 100, 2, 1, 50 - 3 * 5);
        toldIs(x, 110, 3, 0, 40 - 3 * 6);
        toldIs(x, 120, 9, 1, 0);
        due("the SIGHT", x.so(0), 20);
    }

    private static void promise28() {
        asks(28, "");
        SauceredMilk x = threeWitnesses();
        x.witness(7, 15, true, 99);
        x.he(6, 4, 2);
        x.way(11, 0, true);
        x.way(10, 0, true);
        x.milk(77);
        x.seen(0, true, 1);
        write(x, "A?.");
        toldIs(x, 0, 3, 0b10000111, 0b100, 6, 4, 2, 0, 77, 1, OUTSIDE);
        toldIs(x, 10, 0b110000000000, 0, 0, 0, 0, 0, 0, 0, 0, 0, 1, 1);
        for (int what = 22; what < 100; what++) due("told(" + what + ")", x.told(what), OUTSIDE);
        toldIs(x, 100, 2, 1, 50, OUTSIDE, OUTSIDE, OUTSIDE, OUTSIDE, OUTSIDE, OUTSIDE, OUTSIDE);
        toldIs(x, 110, 3, 0, 40, OUTSIDE);
        toldIs(x, 170, 15, 1, 99, OUTSIDE);
        due("not there", x.told(130), OUTSIDE);
        due("no such witness", x.told(180), OUTSIDE);
        for (int far : FAR_OUT) due("far", x.told(far), OUTSIDE);
        write(x, "A!.");
        x.done();
        due("let go", x.told(100), OUTSIDE);
        toldIs(x, 0, 0, 0b10000110, 0b100, 6, 4, 2, 1);
    }
}
