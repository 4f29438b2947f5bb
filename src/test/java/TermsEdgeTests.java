/** The edges that the document names for TERMS, what is behind them, and how long CREAM lasts: promises 9 to 13. */
public final class TermsEdgeTests extends Checks {
    public static void main(String[] args) {
        whatIsJudged(); nothingToJudge(); noSuchWitness(); noSuchPlace(); tooFar(); offAlready(); creamEnough();
        hourNinetyNine(); othersAtHourNinetyNine(); leastReason(); firstAct(); lastOfSixty(); judgedAsItGoes(); judgedWithFault();
        doneEmpty(); doneFull(); padEmptyThen(); notDone(); bent(); freshMilk(); thinksAgain(); isLetGo(); bothEndsOfTheRow();
        hourByPlaces(); hourToNone(); hoursCounted();
        whatIsBehind(); notThereBehind(); letGoBehind(); liesBehind(); creamBehind(); behindAsDone();
        whatIsThen(); thenOfNone(); thenOffAndLying(); nothingTurns(); firstThatTurns(); lastActTurns(); leastThatTurns();
        offAtFirst(); thenWithoutTheLetGo();
        lastsAtNone(); lastsForEver(); lastsJust(); lastsBeyond(); lastsWhereHeStands(); lastsOfWhom();
        end();
    }

    /** One witness, D, and HE at a place of his own. */
    private static SauceredMilk courtOfD(int his, int power, int spite, int place, boolean lies, int cream) {
        SauceredMilk x = new SauceredMilk();
        x.he(his, power, spite);
        x.witness(3, place, lies, cream);
        return x;
    }

    private static void doneIs(SauceredMilk x, String terms, int acts) {
        write(x, terms);
        due("done of " + terms, x.done(), acts);
    }

    // ---- promise 9

    private static void whatIsJudged() {
        asks(9, "the ACT (what = 0), why (1)");
        SauceredMilk x = new SauceredMilk();
        write(x, "<1");
        edges("judge", 0, 1, OUTSIDE, x::judge);
    }

    private static void nothingToJudge() {
        asks(9, "JUDGED; NONE: an empty PAD, and one in which all can be");
        judged(new SauceredMilk(), "", NONE, NONE);
        judged(new SauceredMilk(), ".", NONE, NONE);
        judged(new SauceredMilk(), ".".repeat(60), NONE, NONE);
    }

    private static void noSuchWitness() {
        asks(9, "1 there is no such WITNESS");
        for (char sign : "?=~!".toCharArray()) {
            for (int witness = 0; witness < 8; witness++) {
                SauceredMilk x = new SauceredMilk();
                String act = (char) ('A' + witness) + "" + sign;
                judged(x, act, 0, 1);
                x.witness(witness, 0, true, 49);
                judged(x, act, NONE, NONE);
                judged(x, (char) ('A' + witness) + "!" + act, 1, 1);
            }
        }
    }

    private static void noSuchPlace() {
        asks(9, "2 there is no such PLACE (>, <)");
        for (int place = 0; place < 16; place++) {
            for (int steps = 1; steps <= 9; steps++) {
                SauceredMilk x = courtOfD(place, 3, 5, 0, true, 0);
                judged(x, ">" + steps, place + steps > 15 ? 0 : NONE, place + steps > 15 ? 2 : NONE);
                judged(x, "<" + steps, steps > place ? 0 : NONE, steps > place ? 2 : NONE);
            }
        }
    }

    private static void tooFar() {
        asks(9, "3 HE is farther than 1 PLACE from him (?)");
        for (int his = 0; his < 16; his++) {
            for (int place = 0; place < 16; place++) {
                boolean near = his == place || his == place + 1 || his + 1 == place;
                SauceredMilk x = courtOfD(his, 3, 5, place, true, 99);
                judged(x, "D?", near ? NONE : 0, near ? NONE : 3);
                judged(x, "D~D!", NONE, NONE);
            }
        }
        judged(courtOfD(0, 3, 5, 15, true, 49), "D=", NONE, NONE);
    }

    private static void offAlready() {
        asks(9, "4 it is OFF already (?)");
        judged(courtOfD(0, 3, 5, 0, true, 0), "D?", 0, 4);
        judged(courtOfD(0, 3, 5, 0, true, 1), "D?", NONE, NONE);
        judged(courtOfD(0, 3, 5, 0, true, 1), "D?D?", 1, 4);
        judged(courtOfD(0, 3, 5, 0, true, 21), "D?D?", 1, 4);
        judged(courtOfD(0, 3, 5, 0, true, 22), "D?D?", NONE, NONE);
        judged(courtOfD(0, 3, 5, 0, true, 17), ".D?", 1, 4);
        judged(courtOfD(0, 3, 5, 0, true, 18), ".D?", NONE, NONE);
        judged(courtOfD(0, 3, 5, 0, true, 0), "D=D?", NONE, NONE);
    }

    private static void creamEnough() {
        asks(9, "4 CREAM is 50 or more (=)");
        int[] enough = {50, 51, 98, 99};
        int[] less = {0, 1, 48, 49};
        for (int cream : enough) judged(courtOfD(0, 3, 5, 9, true, cream), "D=", 0, 4);
        for (int cream : less) judged(courtOfD(0, 3, 5, 9, true, cream), "D=", NONE, NONE);
        judged(courtOfD(0, 3, 5, 9, true, 0), "D=D=", 1, 4);
        // an hour at 3 PLACES takes 3: 53 is 50 then, and 52 is 49
        judged(courtOfD(0, 3, 5, 3, false, 53), ".D=", 1, 4);
        judged(courtOfD(0, 3, 5, 3, false, 52), ".D=", NONE, NONE);
    }

    private static void hourNinetyNine() {
        asks(9, "5 it is hour 99 (.)");
        SauceredMilk before = atHour(98);
        judged(before, ".", NONE, NONE);
        judged(before, "..", 1, 5);
        SauceredMilk x = atHour(99);
        due("hour", x.told(6), 99);
        judged(x, ".", 0, 5);
        due("done", x.done(), NO);
        due("hour", x.told(6), 99);
    }

    private static void othersAtHourNinetyNine() {
        asks(9, "5 it is hour 99 (.): of that ACT alone");
        SauceredMilk x = atHour(99);
        x.witness(0, 0, true, 10);
        judged(x, ">1<1A?A=A~A!", NONE, NONE);
        judged(x, ">1<1A?A=A~A!.", 6, 5);
        due("what is ahead of it can be", x.judge(0), 6);
        doneIs(x, ">1A=", 2);
        due("hour", x.told(6), 99);
    }

    private static void leastReason() {
        asks(9, "An ACT can not be for the least of these reasons");
        judged(courtOfD(0, 3, 5, 2, true, 0), "D?", 0, 3);
        judged(courtOfD(0, 3, 5, 15, true, 0), "D?", 0, 3);
        judged(courtOfD(0, 3, 5, 1, true, 0), "D?", 0, 4);
        judged(courtOfD(0, 3, 5, 2, true, 1), "D?", 0, 3);
        judged(courtOfD(0, 3, 5, 2, true, 0), "D!D?", 1, 1);
        judged(courtOfD(0, 3, 5, 2, true, 99), "D!D=", 1, 1);
    }

    private static void firstAct() {
        asks(9, "the first ACT (from 0 on) that can not be, and why");
        SauceredMilk x = threeWitnesses();
        judged(x, "<1D?", 0, 2);
        judged(x, "D?<1", 0, 1);
        judged(x, ".D?<1", 1, 1);
        judged(x, ">1.A~<9A=", 3, 2);
        judged(x, "..........C?", 10, 3);
    }

    private static void lastOfSixty() {
        asks(9, "the first ACT that can not be, the last of a full PAD");
        SauceredMilk x = new SauceredMilk();
        hours(x, 40);
        judged(x, ".".repeat(60), 59, 5);
        SauceredMilk earlier = new SauceredMilk();
        hours(earlier, 39);
        judged(earlier, ".".repeat(60), NONE, NONE);
        judged(courtOfD(0, 3, 5, 0, true, 9), "D~".repeat(29) + "<1", 29, 2);
    }

    private static void judgedAsItGoes() {
        asks(9, "of TERMS the first ACT that can not be: each by all that is ahead of it");
        judged(courtOfD(0, 3, 5, 4, true, 9), ">3D?", NONE, NONE);
        judged(courtOfD(0, 3, 5, 4, true, 9), ">2D?", 1, 3);
        judged(courtOfD(0, 3, 5, 4, true, 9), ">6D?", 1, 3);
        judged(courtOfD(0, 3, 5, 4, true, 9), ">5D?", NONE, NONE);
        judged(courtOfD(0, 0, 5, 0, false, 15), "D~D?D?", 2, 4);
        judged(courtOfD(0, 0, 5, 0, true, 15), "D~D?D?", NONE, NONE);
        SauceredMilk x = courtOfD(7, 3, 5, 7, true, 9);
        judged(x, "D!", NONE, NONE);
        judged(x, "D?", NONE, NONE);
        due("nothing has happened", x.told(1), 8);
    }

    private static void judgedWithFault() {
        asks(9, "NO: there is a FAULT");
        for (String terms : new String[] {"x", "A", ">", ".".repeat(59) + "A", "<1x", "<1<"}) {
            SauceredMilk x = new SauceredMilk();
            write(x, terms);
            due("judge(0) of " + terms, x.judge(0), NO);
            due("judge(1) of " + terms, x.judge(1), NO);
        }
    }

    // ---- promise 10

    private static void doneEmpty() {
        asks(10, "ACTS, the PAD being empty");
        SauceredMilk x = threeWitnesses();
        due("none", x.done(), 0);
        toldIs(x, 0, 0, 7, 4, 0, 3, 5, 0);
        toldIs(x, 100, 2, 1, 50);
    }

    private static void doneFull() {
        asks(10, "ACTS, the PAD being full");
        doneIs(new SauceredMilk(), ".".repeat(60), 60);
        doneIs(courtOfD(0, 3, 5, 0, true, 9), "D~".repeat(30), 30);
        doneIs(courtOfD(0, 3, 5, 0, true, 9), ">1<1".repeat(15), 30);
        doneIs(new SauceredMilk(), ".", 1);
    }

    private static void padEmptyThen() {
        asks(10, "TERMS on the PAD are DONE (it is empty then)");
        SauceredMilk x = new SauceredMilk();
        doneIs(x, "..>1", 3);
        toldIs(x, 0, 0);
        due("nothing more is DONE", x.done(), 0);
        toldIs(x, 6, 2);
        due("HIS PLACE", x.told(3), 1);
        due("no sign was there", x.wipe(), 0);
    }

    private static void notDone() {
        asks(10, "NO: there is a FAULT, or an ACT that can not be");
        for (String last : new String[] {"x", ">", ">0", "A", "Ax", "E?", "<9", "C?", "B=B="}) {
            SauceredMilk x = threeWitnesses();
            write(x, ".>1A~" + last);
            due("done with " + last, x.done(), NO);
            due("again", x.done(), NO);
            toldIs(x, 0, 5 + last.length(), 7, 4, 0, 3, 5, 0);
            toldIs(x, 100, 2, 1, 50);
            toldIs(x, 110, 3, 0, 40);
        }
    }

    private static void bentIs(int power, int spite, boolean lies, int cream, int want) {
        SauceredMilk x = courtOfD(8, power, spite, 8, lies, cream);
        doneIs(x, "D?", 1);
        due("HE bends over " + cream + " with " + power + ", " + spite + ", " + lies, x.told(132), want);
    }

    private static void bent() {
        asks(10, "CREAM is less by 2 times POWER, and 3 times SPITE if that one LIES; 0 at least");
        bentIs(0, 0, true, 1, 1);
        bentIs(0, 9, false, 1, 1);
        bentIs(0, 9, true, 28, 1);
        bentIs(0, 9, true, 27, 0);
        bentIs(0, 9, true, 26, 0);
        bentIs(9, 0, true, 19, 1);
        bentIs(9, 0, true, 18, 0);
        bentIs(9, 9, false, 19, 1);
        bentIs(9, 9, false, 18, 0);
        bentIs(9, 9, false, 17, 0);
        bentIs(9, 9, true, 46, 1);
        bentIs(9, 9, true, 45, 0);
        bentIs(9, 9, true, 44, 0);
        bentIs(9, 9, true, 1, 0);
        bentIs(9, 9, true, 99, 54);
        bentIs(1, 1, true, 99, 94);
        SauceredMilk x = threeWitnesses();
        x.he(2, 3, 5);
        doneIs(x, "A?", 1);
        due("no other one loses", x.told(112), 40);
        due("no hour goes", x.told(6), 0);
    }

    private static void freshMilk() {
        asks(10, "fresh milk: CREAM is 50");
        for (int cream : new int[] {0, 1, 49}) {
            SauceredMilk x = courtOfD(0, 3, 5, 15, false, cream);
            doneIs(x, "D=", 1);
            toldIs(x, 130, 15, 0, 50);
            due("none is OFF", x.told(2), 0);
        }
    }

    private static void thinksAgain() {
        asks(10, "he thinks again: he LIES, if he did not, else not");
        SauceredMilk x = courtOfD(0, 3, 5, 15, false, 0);
        doneIs(x, "D~", 1);
        toldIs(x, 130, 15, 1, 0);
        doneIs(x, "D~", 1);
        toldIs(x, 130, 15, 0, 0);
        doneIs(x, "D~D~", 2);
        toldIs(x, 130, 15, 0, 0);
    }

    private static void isLetGo() {
        asks(10, "he is let go: he is no more");
        SauceredMilk x = new SauceredMilk();
        for (int witness = 0; witness < 8; witness++) x.witness(witness, 1, true, 0);
        doneIs(x, "A!", 1);
        toldIs(x, 1, 254, 254);
        doneIs(x, "H!", 1);
        toldIs(x, 1, 126, 126);
        doneIs(x, "B!C!D!E!F!G!", 6);
        toldIs(x, 1, 0, 0);
        due("the first one again", x.witness(0, 2, false, 3), 1);
        toldIs(x, 100, 2, 0, 3);
        doneIs(x, ".", 1);
        toldIs(x, 1, 1, 1);
    }

    private static void bothEndsOfTheRow() {
        asks(10, "HE goes so many PLACES on, back, to both ends of the row");
        SauceredMilk x = new SauceredMilk();
        doneIs(x, ">9>6", 2);
        due("the last PLACE", x.told(3), 15);
        doneIs(x, "<9<5", 2);
        due("the second", x.told(3), 1);
        doneIs(x, "<1", 1);
        due("the first PLACE", x.told(3), 0);
    }

    private static void lostInAnHour(int his, int power, int spite, int place, boolean lies, int cream, int left) {
        SauceredMilk x = courtOfD(his, power, spite, place, lies, cream);
        doneIs(x, ".", 1);
        due("an hour of " + cream + " at " + place + ", HE at " + his + ", lying " + lies, x.told(132), left);
    }

    private static void hourByPlaces() {
        asks(10, "each who sits no farther than 3 PLACES from HIM: POWER times (4 less those PLACES), and SPITE if he LIES");
        int[] losses = {8, 6, 4, 2, 0, 0, 0, 0, 0};
        for (int off = 0; off <= 7; off++) {
            int spite = off <= 3 ? 1 : 0;
            lostInAnHour(8, 2, 1, 8 + off, false, 50, 50 - losses[off]);
            lostInAnHour(8, 2, 1, 8 - off, false, 50, 50 - losses[off]);
            lostInAnHour(8, 2, 1, 8 + off, true, 50, 50 - losses[off] - spite);
            lostInAnHour(8, 2, 1, 8 - off, true, 50, 50 - losses[off] - spite);
        }
        lostInAnHour(0, 9, 9, 15, true, 99, 99);
        lostInAnHour(15, 9, 9, 0, true, 99, 99);
        lostInAnHour(15, 9, 9, 12, true, 99, 81);
        lostInAnHour(0, 0, 9, 3, true, 99, 90);
        lostInAnHour(0, 0, 9, 4, true, 99, 99);
        lostInAnHour(0, 0, 9, 0, false, 99, 99);
    }

    private static void hourToNone() {
        asks(10, "an hour: 0 at least");
        lostInAnHour(0, 9, 9, 0, true, 46, 1);
        lostInAnHour(0, 9, 9, 0, true, 45, 0);
        lostInAnHour(0, 9, 9, 0, true, 44, 0);
        lostInAnHour(0, 9, 9, 0, true, 1, 0);
        lostInAnHour(0, 9, 9, 0, true, 0, 0);
        lostInAnHour(0, 9, 9, 0, false, 37, 1);
        lostInAnHour(0, 9, 9, 0, false, 36, 0);
        lostInAnHour(0, 9, 9, 0, false, 35, 0);
        lostInAnHour(0, 1, 9, 3, false, 1, 0);
        lostInAnHour(0, 0, 0, 0, true, 1, 1);
    }

    private static void hoursCounted() {
        asks(10, "hours go up to 99");
        SauceredMilk x = new SauceredMilk();
        hours(x, 0);
        due("no hour", x.told(6), 0);
        hours(x, 1);
        due("an hour", x.told(6), 1);
        hours(x, 60);
        due("sixty more", x.told(6), 61);
        hours(x, 38);
        due("the last hour", x.told(6), 99);
        write(x, ".");
        due("none more", x.done(), NO);
        due("the last hour", x.told(6), 99);
    }

    // ---- promise 11

    private static void whatIsBehind() {
        asks(11, "CREAM (what = 0), whether he LIES (1)");
        SauceredMilk x = courtOfD(0, 3, 5, 0, true, 9);
        edges("behind", 0, 1, OUTSIDE, what -> x.behind(3, what));
    }

    private static void notThereBehind() {
        asks(11, "UNKNOWN: he is not there");
        SauceredMilk all = new SauceredMilk();
        for (int witness = 0; witness < 8; witness++) all.witness(witness, 0, true, 1);
        edges("behind", 0, 7, UNKNOWN, witness -> all.behind(witness, 0));
        SauceredMilk x = courtOfD(0, 3, 5, 0, true, 9);
        for (int witness = 0; witness < 8; witness++) {
            due("behind " + witness, x.behind(witness, 0), witness == 3 ? 9 : UNKNOWN);
            due("behind " + witness, x.behind(witness, 1), witness == 3 ? 1 : UNKNOWN);
        }
    }

    private static void letGoBehind() {
        asks(11, "of a WITNESS (that is there now) (NONE both: he was let go)");
        SauceredMilk x = courtOfD(0, 3, 5, 0, true, 9);
        write(x, "D!");
        due("cream", x.behind(3, 0), NONE);
        due("lies", x.behind(3, 1), NONE);
        due("he is there yet", x.lasts(3), 1);
        due("he goes", x.done(), 1);
        due("cream", x.behind(3, 0), UNKNOWN);
        due("lies", x.behind(3, 1), UNKNOWN);
    }

    private static void liesBehind() {
        asks(11, "whether he LIES (1, 0)");
        SauceredMilk x = courtOfD(0, 3, 5, 0, true, 0);
        due("now", x.behind(3, 1), 1);
        write(x, "D~");
        due("once", x.behind(3, 1), 0);
        write(x, "D~D~");
        due("twice", x.behind(3, 1), 1);
        due("in fact", x.told(131), 1);
    }

    private static void creamBehind() {
        asks(11, "BEHIND: CREAM, from none to most");
        SauceredMilk x = courtOfD(0, 3, 5, 1, false, 99);
        due("now", x.behind(3, 0), 99);
        write(x, "D?");
        due("bent over", x.behind(3, 0), 93);
        write(x, ".".repeat(11));
        due("eleven hours of 9", x.behind(3, 0), 0);
        write(x, ".".repeat(10));
        due("ten hours", x.behind(3, 0), 9);
        write(x, ".".repeat(12) + "D=");
        due("fresh", x.behind(3, 0), 50);
        due("in fact", x.told(132), 99);
    }

    private static void behindAsDone() {
        asks(11, "NO, as of done()");
        for (String terms : new String[] {"D", "x", "D!D", "<1", "D!D!", "D!<1"}) {
            SauceredMilk x = courtOfD(0, 3, 5, 1, false, 99);
            write(x, terms);
            due("cream behind " + terms, x.behind(3, 0), NO);
            due("lies behind " + terms, x.behind(3, 1), NO);
        }
    }

    // ---- promise 12

    private static void whatIsThen() {
        asks(12, "OFF ones (what = 0) ... the WITNESS (6)");
        SauceredMilk x = threeWitnesses();
        edges("then", 0, 6, OUTSIDE, x::then);
        write(x, "<1");
        for (int what = 0; what <= 6; what++) due("then(" + what + ")", x.then(what), NO);
        write(x, "<");
        for (int what = 0; what <= 6; what++) due("then(" + what + ")", x.then(what), NO);
    }

    private static void thenOfNone() {
        asks(12, "BEHIND no TERMS, of no WITNESSES");
        SauceredMilk x = new SauceredMilk();
        thenIs(x, 0, 0, 0, 0, 0, NONE, NONE);
        write(x, ">9>6..");
        thenIs(x, 0, 0, 0, 15, 2, NONE, NONE);
        thenIs(atHour(99), 0, 0, 0, 0, 99, NONE, NONE);
    }

    private static void thenOffAndLying() {
        asks(12, "OFF ones (bits), how many LIE that are not OFF, how many are OFF that do not LIE");
        SauceredMilk x = new SauceredMilk();
        for (int witness = 0; witness < 8; witness++) x.witness(witness, 0, true, 1);
        thenIs(x, 0, 8, 0);
        for (int witness = 0; witness < 8; witness++) x.witness(witness, 0, false, 0);
        thenIs(x, 255, 0, 8);
        for (int witness = 0; witness < 8; witness++) x.witness(witness, 0, true, 0);
        thenIs(x, 255, 0, 0);
        for (int witness = 0; witness < 8; witness++) x.witness(witness, 0, false, 1);
        thenIs(x, 0, 0, 0);
        x.witness(0, 0, true, 0);
        x.witness(7, 0, true, 1);
        x.witness(6, 0, false, 0);
        thenIs(x, 65, 1, 1);
        write(x, "A~H~");
        thenIs(x, 65, 0, 2);
    }

    private static void nothingTurns() {
        asks(12, "the ACT (5; NONE), the WITNESS (6; NONE)");
        SauceredMilk x = courtOfD(0, 1, 0, 3, false, 60);
        write(x, ".".repeat(59));
        thenIs(x, 0, 0, 0, 0, 59, NONE, NONE);
        SauceredMilk off = courtOfD(0, 9, 9, 0, true, 0);
        write(off, ".D~..");
        thenIs(off, 8, 0, 1, 0, 3, NONE, NONE);
    }

    private static void firstThatTurns() {
        asks(12, "the first ACT behind which a saucer is OFF that was not");
        SauceredMilk x = new SauceredMilk();
        x.he(0, 1, 0);
        x.witness(0, 3, false, 2);
        x.witness(7, 3, false, 1);
        write(x, ".");
        thenIs(x, 128, 0, 1, 0, 1, 0, 7);
        write(x, "..");
        thenIs(x, 129, 0, 2, 0, 2, 0, 7);
        write(x, "H=..");
        thenIs(x, 1, 0, 1, 0, 2, 2, 0);
        write(x, ".H=.");
        thenIs(x, 1, 0, 1, 0, 2, 0, 7);
    }

    private static void lastActTurns() {
        asks(12, "the first ACT behind which a saucer is OFF, the last of a full PAD");
        SauceredMilk x = courtOfD(0, 1, 0, 3, false, 60);
        write(x, ".".repeat(60));
        thenIs(x, 8, 0, 1, 0, 60, 59, 3);
        SauceredMilk more = courtOfD(0, 1, 0, 3, false, 61);
        write(more, ".".repeat(60));
        thenIs(more, 0, 0, 0, 0, 60, NONE, NONE);
    }

    private static void leastThatTurns() {
        asks(12, "the least such WITNESS");
        SauceredMilk x = new SauceredMilk();
        for (int witness = 7; witness >= 0; witness--) {
            x.witness(witness, 0, false, 12);
            write(x, ".");
            thenIs(x, 256 - (1 << witness), 0, 8 - witness, 0, 1, 0, witness);
        }
    }

    private static void offAtFirst() {
        asks(12, "a saucer is OFF that was not: one that was OFF ahead of it is none");
        SauceredMilk x = new SauceredMilk();
        x.he(0, 1, 0);
        x.witness(0, 0, false, 0);
        x.witness(5, 0, false, 5);
        write(x, "..");
        thenIs(x, 33, 0, 2, 0, 2, 1, 5);
        write(x, "A~.A~");
        thenIs(x, 1, 0, 1, 0, 1, NONE, NONE);
        x.he(0, 9, 0);
        write(x, "A=A?A?A?");
        thenIs(x, 1, 0, 1, 0, 0, 3, 0);
    }

    private static void thenWithoutTheLetGo() {
        asks(12, "of all: one that was let go is not OFF, nor does he LIE");
        SauceredMilk x = courtOfD(0, 9, 9, 0, true, 45);
        write(x, "D!");
        thenIs(x, 0, 0, 0, 0, 0, NONE, NONE);
        write(x, ".D!");
        thenIs(x, 0, 0, 0, 0, 1, 0, 3);
        write(x, ".D~D!");
        thenIs(x, 0, 0, 0, 0, 1, 0, 3);
    }

    // ---- promise 13

    private static void lastsIs(int his, int power, int spite, int place, boolean lies, int cream, int want) {
        String call = "lasts of " + cream + " at " + place + ", HE at " + his + " with " + power + ", " + spite;
        due(call, courtOfD(his, power, spite, place, lies, cream).lasts(3), want);
    }

    private static void lastsAtNone() {
        asks(13, "0: it is");
        lastsIs(0, 0, 0, 15, false, 0, 0);
        lastsIs(0, 9, 9, 0, true, 0, 0);
        lastsIs(0, 9, 9, 4, true, 0, 0);
    }

    private static void lastsForEver() {
        asks(13, "behind how many hours it is OFF first; NONE");
        for (int place = 0; place < 16; place++) {
            lastsIs(8, 9, 9, place, true, 1, place >= 5 && place <= 11 ? 1 : NONE);
            lastsIs(8, 0, 0, place, true, 1, NONE);
            lastsIs(8, 0, 9, place, false, 1, NONE);
            lastsIs(8, 0, 1, place, true, 1, place >= 5 && place <= 11 ? 1 : NONE);
        }
        lastsIs(0, 9, 9, 4, true, 99, NONE);
        lastsIs(0, 9, 9, 15, true, 99, NONE);
    }

    private static void lastsJust() {
        asks(13, "behind how many hours it is OFF first, CREAM going just, or to a rest");
        lastsIs(0, 9, 9, 0, true, 44, 1);
        lastsIs(0, 9, 9, 0, true, 45, 1);
        lastsIs(0, 9, 9, 0, true, 46, 2);
        lastsIs(0, 9, 9, 0, true, 90, 2);
        lastsIs(0, 9, 9, 0, true, 91, 3);
        lastsIs(0, 9, 9, 0, true, 99, 3);
        lastsIs(0, 1, 0, 3, true, 1, 1);
        lastsIs(0, 1, 0, 3, true, 98, 98);
        lastsIs(0, 1, 0, 2, true, 99, 50);
        lastsIs(0, 1, 0, 2, true, 98, 49);
    }

    private static void lastsBeyond() {
        asks(13, "beyond hour 99, too");
        SauceredMilk x = atHour(99);
        x.he(0, 1, 0);
        x.witness(0, 3, false, 99);
        due("99 hours from the last hour", x.lasts(0), 99);
        SauceredMilk before = atHour(98);
        before.he(0, 1, 0);
        before.witness(0, 3, false, 2);
        due("one hour beyond", before.lasts(0), 2);
    }

    private static void lastsWhereHeStands() {
        asks(13, "HE standing where HE is");
        SauceredMilk x = courtOfD(0, 1, 0, 4, false, 8);
        write(x, ">4");
        due("TERMS are not DONE", x.lasts(3), NONE);
        x.done();
        due("HE has gone there", x.lasts(3), 2);
        write(x, ".");
        due("still not", x.lasts(3), 2);
        x.done();
        due("an hour less", x.lasts(3), 1);
        write(x, "x");
        due("a FAULT does not matter", x.lasts(3), 1);
    }

    private static void lastsOfWhom() {
        asks(13, "UNKNOWN: he is not there");
        SauceredMilk all = new SauceredMilk();
        for (int witness = 0; witness < 8; witness++) all.witness(witness, 0, true, 1);
        edges("lasts", 0, 7, UNKNOWN, all::lasts);
        SauceredMilk x = courtOfD(0, 3, 5, 0, true, 18);
        for (int witness = 0; witness < 8; witness++) {
            due("lasts " + witness, x.lasts(witness), witness == 3 ? 2 : UNKNOWN);
        }
        write(x, "D!");
        due("he is there yet", x.lasts(3), 2);
        x.done();
        due("he was let go", x.lasts(3), UNKNOWN);
    }
}
