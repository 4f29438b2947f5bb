import java.util.Arrays;

/**
 * Calls that are refused: which answer is the first that fits where two do, and that they change nothing. A refused
 * call is made on one of two objects that were used alike; both answer all later calls alike then.
 */
public final class RefusalTests extends Checks {
    private static final int LEAST = Integer.MIN_VALUE, MOST = Integer.MAX_VALUE;

    /** Objects that were used alike. */
    private interface Used {
        SauceredMilk made();
    }

    /** A call on one of them. */
    private interface Made {
        long on(SauceredMilk x);
    }

    public static void main(String[] args) {
        unknownFirst(); outsideFirst(); noFirst();
        numbersChangeNothing(); witnessesChangeNothing(); termsChangeNothing(); fullChangesNothing(); stateChangesNothing();
        askingChangesNothing();
        end();
    }

    // ---- objects that were used alike

    /** All is in use, both IMAGES differ from what is so now, and the TERMS can be. D to G are not there. */
    private static SauceredMilk inUse(String terms) {
        SauceredMilk x = threeWitnesses();
        x.witness(7, 15, false, 99);
        for (int cell = 0; cell < 6; cell++) x.way(cell, (cell + 1) % 6, true);
        x.milk(1 << 11);
        x.seen(0, false, 12);
        x.image(0);
        x.he(2, 4, 6);
        x.witness(1, 1, true, 30);
        x.way(10, 11, true);
        x.seen(0, true, 17);
        hours(x, 2);
        x.image(1);
        x.he(3, 3, 5);
        x.witness(2, 4, true, 45);
        x.milk(1 << 10 | 1 << 4);
        x.way(0, 5, false);
        write(x, terms);
        return x;
    }

    private static SauceredMilk full() {
        SauceredMilk x = inUse(".".repeat(59) + "x");
        for (int i = 2; i < 8; i++) x.seen(3, true, 8);
        return x;
    }

    /** Answers that tell all that an object holds, ahead of DONE and behind it, and of its IMAGES. */
    private static long[] allThatIsSo(SauceredMilk x) {
        long[] answers = new long[400];
        int at = look(x, answers, 0);
        answers[at++] = x.done();
        answers[at++] = x.wipe();
        at = look(x, answers, at);
        for (int n = 0; n < 2; n++) {
            answers[at++] = x.restore(n);
            at = look(x, answers, at);
        }
        answers[at++] = x.forget();
        answers[at++] = x.seen(0, false, 12);
        answers[at++] = x.he(0, 0, 0);
        answers[at++] = x.milk(0);
        answers[at++] = x.way(0, 1, false);
        answers[at++] = x.witness(0, 0, false, 0);
        return Arrays.copyOf(answers, at);
    }

    private static int look(SauceredMilk x, long[] answers, int from) {
        int at = from;
        for (int what = 0; what <= 8; what++) answers[at++] = x.told(what);
        for (int what = 10; what <= 21; what++) answers[at++] = x.told(what);
        for (int witness = 0; witness < 8; witness++) {
            for (int what = 0; what <= 2; what++) answers[at++] = x.told(100 + 10 * witness + what);
        }
        answers[at++] = x.fault();
        for (int what = 0; what <= 1; what++) answers[at++] = x.judge(what);
        for (int what = 0; what <= 6; what++) answers[at++] = x.then(what);
        for (int i = -1; i <= 1; i++) answers[at++] = x.so(i);
        answers[at++] = x.ask(0);
        answers[at++] = x.round(0, 3, 0);
        answers[at++] = x.shun(10, 11, 1);
        answers[at++] = x.year(77, 40, 1);
        return at;
    }

    private static void changesNothing(String call, Used object, Made made) {
        SauceredMilk x = object.made();
        made.on(x);
        boolean same = Arrays.equals(allThatIsSo(x), allThatIsSo(object.made()));
        due(call + " has changed nothing: " + same, same ? 1 : 0, 1);
    }

    private static void refused(String call, Used object, Made made, long refusal) {
        due(call, made.on(object.made()), refusal);
        changesNothing(call, object, made);
    }

    private static void refused(String call, Made made, long refusal) {
        refused(call, () -> inUse("A?.>1"), made, refusal);
    }

    // ---- the first of these that fits

    private static void unknownFirst() {
        asks(0, "the first of these that fits: UNKNOWN ahead of OUTSIDE, NO");
        refused("witness(8, 16, ..)", x -> x.witness(8, 16, true, 1), UNKNOWN);
        refused("witness(-1, .., 100)", x -> x.witness(-1, 0, true, 100), UNKNOWN);
        refused("round(12, 0, 2)", x -> x.round(12, 0, 2), UNKNOWN);
        refused("round(0, 12, 2)", x -> x.round(0, 12, 2), UNKNOWN);
        refused("round(-1, 0, -1)", x -> x.round(-1, 0, -1), UNKNOWN);
        refused("shun(12, 0, 2)", x -> x.shun(12, 0, 2), UNKNOWN);
        refused("shun(0, 12, 2)", x -> x.shun(0, 12, 2), UNKNOWN);
        refused("shun(0, -1, -1)", x -> x.shun(0, -1, -1), UNKNOWN);
        refused("behind(3, 2)", x -> x.behind(3, 2), UNKNOWN);
        refused("behind(8, -1)", x -> x.behind(8, -1), UNKNOWN);
        for (String terms : new String[] {"x", "<9"}) {
            refused("behind(3, 0) with " + terms, () -> inUse(terms), x -> x.behind(3, 0), UNKNOWN);
            refused("behind(8, 1) with " + terms, () -> inUse(terms), x -> x.behind(8, 1), UNKNOWN);
            refused("behind(3, 2) with " + terms, () -> inUse(terms), x -> x.behind(3, 2), UNKNOWN);
        }
    }

    private static void outsideFirst() {
        asks(0, "the first of these that fits: OUTSIDE ahead of NO, STATE, FULL");
        for (String terms : new String[] {"x", ">", "<9", "D!"}) {
            refused("behind(0, 2) with " + terms, () -> inUse(terms), x -> x.behind(0, 2), OUTSIDE);
            refused("behind(0, -1) with " + terms, () -> inUse(terms), x -> x.behind(0, -1), OUTSIDE);
            refused("then(7) with " + terms, () -> inUse(terms), x -> x.then(7), OUTSIDE);
            refused("then(-1) with " + terms, () -> inUse(terms), x -> x.then(-1), OUTSIDE);
            refused("judge(2) with " + terms, () -> inUse(terms), x -> x.judge(2), OUTSIDE);
            refused("judge(-1) with " + terms, () -> inUse(terms), x -> x.judge(-1), OUTSIDE);
        }
        refused("restore(2), none being kept", SauceredMilk::new, x -> x.restore(2), OUTSIDE);
        refused("restore(-1), none being kept", SauceredMilk::new, x -> x.restore(-1), OUTSIDE);
        refused("say(32) on a full PAD", RefusalTests::full, x -> x.say(32), OUTSIDE);
        refused("say(127) on a full PAD", RefusalTests::full, x -> x.say(127), OUTSIDE);
        refused("seen(4, ..), eight being there", RefusalTests::full, x -> x.seen(4, true, 0), OUTSIDE);
        refused("seen(.., 100), eight being there", RefusalTests::full, x -> x.seen(0, true, 100), OUTSIDE);
        refused("seen(.., -1), eight being there", RefusalTests::full, x -> x.seen(0, true, -1), OUTSIDE);
    }

    private static void noFirst() {
        asks(0, "NO -5 (as told): a FAULT ahead of an ACT that can not be, for judge() too");
        for (String terms : new String[] {"<9x", "<9A", "D?<", "C=x"}) {
            refused("judge(0) of " + terms, () -> inUse(terms), x -> x.judge(0), NO);
            refused("judge(1) of " + terms, () -> inUse(terms), x -> x.judge(1), NO);
        }
    }

    // ---- they change nothing

    private static void numbersChangeNothing() {
        asks(0, "OUTSIDE: they change nothing");
        for (int far : new int[] {-1, LEAST, MOST, 100000}) {
            refused("witness, place " + far, x -> x.witness(0, far, false, 1), OUTSIDE);
            refused("witness, cream " + far, x -> x.witness(0, 5, false, far), OUTSIDE);
            refused("one who is not there, place " + far, x -> x.witness(3, far, false, 1), OUTSIDE);
            refused("one who is not there, cream " + far, x -> x.witness(3, 5, false, far), OUTSIDE);
            refused("he, place " + far, x -> x.he(far, 9, 9), OUTSIDE);
            refused("he, power " + far, x -> x.he(9, far, 9), OUTSIDE);
            refused("he, spite " + far, x -> x.he(9, 9, far), OUTSIDE);
            refused("milk " + far, x -> x.milk(far), OUTSIDE);
            refused("say " + far, x -> x.say(far), OUTSIDE);
            refused("seen, d " + far, x -> x.seen(far, true, 9), OUTSIDE);
            refused("seen, v " + far, x -> x.seen(0, true, far), OUTSIDE);
            refused("image " + far, x -> x.image(far), OUTSIDE);
            refused("restore " + far, x -> x.restore(far), OUTSIDE);
            refused("judge " + far, x -> x.judge(far), OUTSIDE);
            refused("behind, what " + far, x -> x.behind(0, far), OUTSIDE);
            refused("then " + far, x -> x.then(far), OUTSIDE);
            refused("ask " + far, x -> x.ask(far), OUTSIDE);
            refused("told " + far, x -> x.told(far), OUTSIDE);
            refused("year, seed " + far, x -> x.year(far, 99, 0), OUTSIDE);
            refused("year, m " + far, x -> x.year(9, far, 0), OUTSIDE);
            refused("year, what " + far, x -> x.year(9, 99, far), OUTSIDE);
            refused("trials " + far, x -> x.trials(far, 1, 0), OUTSIDE);
            refused("apart " + far, x -> x.apart(far, 0), OUTSIDE);
            refused("row " + far, x -> x.row(9, far, 0), OUTSIDE);
            refused("jugs " + far, x -> x.jugs(far, 1, 0), OUTSIDE);
            refused("odds " + far, x -> x.odds(1, 1, far, 0, 0), REFUSED);
            refused("round, what " + far, x -> x.round(0, 1, far), OUTSIDE);
            refused("shun, what " + far, x -> x.shun(0, 1, far), OUTSIDE);
        }
        refused("place 16", x -> x.witness(0, 16, false, 1), OUTSIDE);
        refused("cream 100", x -> x.witness(0, 5, false, 100), OUTSIDE);
        refused("his place 16", x -> x.he(16, 9, 9), OUTSIDE);
        refused("power 10", x -> x.he(9, 10, 9), OUTSIDE);
        refused("spite 10", x -> x.he(9, 9, 10), OUTSIDE);
        refused("milk 4096", x -> x.milk(4096), OUTSIDE);
        refused("sign 32", x -> x.say(32), OUTSIDE);
        refused("sign 127", x -> x.say(127), OUTSIDE);
        refused("d 4", x -> x.seen(4, true, 9), OUTSIDE);
        refused("v 100", x -> x.seen(0, true, 100), OUTSIDE);
        refused("image 2", x -> x.image(2), OUTSIDE);
        refused("restore 2", x -> x.restore(2), OUTSIDE);
    }

    private static void witnessesChangeNothing() {
        asks(0, "UNKNOWN: they change nothing");
        for (int far : new int[] {-1, LEAST, MOST, 32, 33}) {
            refused("witness " + far, x -> x.witness(far, 1, true, 1), UNKNOWN);
            refused("behind " + far, x -> x.behind(far, 0), UNKNOWN);
            refused("lasts " + far, x -> x.lasts(far), UNKNOWN);
            refused("a way from " + far, x -> x.way(far, 1, true), UNKNOWN);
            refused("a way to " + far, x -> x.way(1, far, true), UNKNOWN);
            refused("no way from " + far, x -> x.way(far, 1, false), UNKNOWN);
            refused("no way to " + far, x -> x.way(1, far, false), UNKNOWN);
            refused("round from " + far, x -> x.round(far, 1, 0), UNKNOWN);
            refused("shun to " + far, x -> x.shun(1, far, 0), UNKNOWN);
        }
        refused("witness 8", x -> x.witness(8, 1, true, 1), UNKNOWN);
        refused("a way to 12", x -> x.way(0, 12, true), UNKNOWN);
        refused("no way from 12", x -> x.way(12, 0, false), UNKNOWN);
        for (int cell = 0; cell < 12; cell++) {
            int twice = cell;
            refused("a way to itself", x -> x.way(twice, twice, true), UNKNOWN);
            refused("no way to itself", x -> x.way(twice, twice, false), UNKNOWN);
        }
        for (int witness = 3; witness < 7; witness++) {
            int absent = witness;
            refused("behind " + absent, x -> x.behind(absent, 1), UNKNOWN);
            refused("lasts " + absent, x -> x.lasts(absent), UNKNOWN);
        }
    }

    private static void termsChangeNothing() {
        asks(0, "NO: they change nothing");
        for (String terms : new String[] {"A!.x", "A", ">1.<9", ".A~B!B?", ".>1C=C=D!"}) {
            Used used = () -> inUse(terms);
            refused("done of " + terms, used, SauceredMilk::done, NO);
            for (int what = 0; what <= 6; what++) {
                int asked = what;
                refused("then(" + what + ") of " + terms, used, x -> x.then(asked), NO);
            }
            refused("behind(0, 0) of " + terms, used, x -> x.behind(0, 0), NO);
            refused("behind(0, 1) of " + terms, used, x -> x.behind(0, 1), NO);
        }
    }

    private static void fullChangesNothing() {
        asks(0, "FULL: they change nothing");
        for (char sign : ".A~!x".toCharArray()) {
            refused("say " + sign + " on a full PAD", RefusalTests::full, x -> x.say(sign), FULL);
            refused("say " + sign + " on a full PAD that can be", () -> inUse("A~".repeat(30)), x -> x.say(sign), FULL);
        }
        refused("a ninth SIGHT that is so", RefusalTests::full, x -> x.seen(0, false, 12), FULL);
        refused("a ninth SIGHT that is not so", RefusalTests::full, x -> x.seen(3, true, 99), FULL);
    }

    private static void stateChangesNothing() {
        asks(0, "STATE: they change nothing");
        refused("restore(0), new", SauceredMilk::new, x -> x.restore(0), STATE);
        refused("restore(1), new", SauceredMilk::new, x -> x.restore(1), STATE);
        refused("restore(0), in use", Checks::threeWitnesses, x -> x.restore(0), STATE);
        refused("restore(1), in use", Checks::threeWitnesses, x -> x.restore(1), STATE);
    }

    // ---- nor do calls that only ask

    private static void askingChangesNothing() {
        asks(0, "Nothing is promised beyond the answers and state changes described");
        for (String terms : new String[] {"", "A?.>1", "A!..C=", "<9", "x"}) {
            Used used = () -> inUse(terms);
            changesNothing("fault", used, SauceredMilk::fault);
            changesNothing("judge", used, x -> x.judge(0));
            changesNothing("behind", used, x -> x.behind(0, 0));
            changesNothing("then", used, x -> x.then(5));
            changesNothing("lasts", used, x -> x.lasts(0));
            changesNothing("trials", used, x -> x.trials(99, 7, 1));
            changesNothing("round", used, x -> x.round(0, 3, 1));
            changesNothing("shun", used, x -> x.shun(0, 3, 1));
            changesNothing("apart", used, x -> x.apart(40, 9));
            changesNothing("row", used, x -> x.row(25, 9, 9));
            changesNothing("so", used, x -> x.so(0));
            changesNothing("ask", used, x -> x.ask(1));
            changesNothing("jugs", used, x -> x.jugs(99, 7, 1));
            changesNothing("odds", used, x -> x.odds(9, 9, 9, 9, 0));
            changesNothing("year", used, x -> x.year(77, 99, 0));
            changesNothing("told", used, x -> x.told(2));
        }
    }
}
