/** What tests share: each answer is held against the one that is due, under the sentence that asks for it. */
class Checks {
    static final int NONE = -6, UNKNOWN = -1, OUTSIDE = -2, STATE = -3, FULL = -4, NO = -5;
    static final long REFUSED = -1000000000000000002L;

    private static int promise = 0;
    private static String sentence = "";
    private static int checked = 0;
    private static int wrong = 0;

    /** A call in which one number is left open. */
    interface Call {
        long with(int number);
    }

    /** What is checked from here on belongs to these words of the document. */
    static void asks(int ofPromise, String words) {
        promise = ofPromise;
        sentence = words;
    }

    static void due(String call, long got, long want) {
        checked++;
        if (got == want) return;
        wrong++;
        System.out.println("promise " + promise + ": " + call + " answered " + got + ", due is " + want
            + (sentence.isEmpty() ? "" : ", by \"" + sentence + "\""));
    }

    static void end() {
        System.out.println(checked + " answers checked, " + wrong + " wrong");
        if (wrong != 0) System.exit(1);
    }

    /** The last numbers that are allowed, the first that are not, and those that a cut of their bits would let in. */
    static void edges(String call, int least, int most, long refusal, Call made) {
        isAllowed(call, least, made);
        isAllowed(call, most, made);
        refuses(call, least - 1, refusal, made);
        refuses(call, most + 1, refusal, made);
        for (int bits : new int[] {5, 8, 16, 31}) {
            for (int edge : new int[] {least, most}) {
                for (int far : new int[] {edge + (1 << bits), edge - (1 << bits)}) {
                    if (far < least || far > most) refuses(call, far, refusal, made);
                }
            }
        }
        refuses(call, Integer.MIN_VALUE, refusal, made);
        refuses(call, Integer.MAX_VALUE, refusal, made);
    }

    private static void isAllowed(String call, int number, Call made) {
        long answer = made.with(number);
        due(call + " with " + number + " (" + answer + ") is allowed", answer >= 0 || answer == NONE ? 1 : 0, 1);
    }

    private static void refuses(String call, int number, long refusal, Call made) {
        due(call + " with " + number, made.with(number), refusal);
    }

    static void write(SauceredMilk x, String terms) {
        x.wipe();
        for (int i = 0; i < terms.length(); i++) due("say " + terms + " " + i, x.say(terms.charAt(i)), i + 1);
    }

    static void hours(SauceredMilk x, int many) {
        write(x, ".".repeat(many));
        due(many + " hours", x.done(), many);
    }

    /** At hour 98 there is one hour more, at hour 99 none. */
    static SauceredMilk atHour(int hour) {
        SauceredMilk x = new SauceredMilk();
        if (hour > 60) hours(x, 60);
        hours(x, hour > 60 ? hour - 60 : hour);
        return x;
    }

    static void judged(SauceredMilk x, String terms, int act, int why) {
        write(x, terms);
        due("judge(0) of " + terms, x.judge(0), act);
        due("judge(1) of " + terms, x.judge(1), why);
    }

    static void thenIs(SauceredMilk x, int... want) {
        for (int what = 0; what < want.length; what++) due("then(" + what + ")", x.then(what), want[what]);
    }

    static void toldIs(SauceredMilk x, int from, int... want) {
        for (int i = 0; i < want.length; i++) due("told(" + (from + i) + ")", x.told(from + i), want[i]);
    }

    static void trialsAre(int n, int k, int fewest, int first) {
        SauceredMilk x = new SauceredMilk();
        due("trials(" + n + ", " + k + ", 1)", x.trials(n, k, 1), first);
        due("trials(" + n + ", " + k + ", 0)", x.trials(n, k, 0), fewest);
    }

    static void roundIs(SauceredMilk x, int from, int to, int steps, int first) {
        due("round(" + from + ", " + to + ", 0)", x.round(from, to, 0), steps);
        due("round(" + from + ", " + to + ", 1)", x.round(from, to, 1), first);
    }

    static void shunIs(SauceredMilk x, int from, int to, int many, int which) {
        int before = x.told(7);
        due("shun(" + from + ", " + to + ", 0)", x.shun(from, to, 0), many);
        due("shun(" + from + ", " + to + ", 1)", x.shun(from, to, 1), which);
        due("the MILK stays", x.told(7), before);
    }

    /** It is the same which of the two jugs is named first. */
    static void jugsAre(int a, int b, int times) {
        SauceredMilk x = new SauceredMilk();
        for (int[] jugs : new int[][] {{a, b}, {b, a}}) {
            String call = "jugs(" + jugs[0] + ", " + jugs[1];
            due(call + ", 0)", x.jugs(jugs[0], jugs[1], 0), times == NONE ? 0 : 1);
            due(call + ", 1)", x.jugs(jugs[0], jugs[1], 1), times);
        }
    }

    static void oddsAre(int t, int u, int n, int k, long upper, long lower) {
        SauceredMilk x = new SauceredMilk();
        String call = "odds(" + t + ", " + u + ", " + n + ", " + k + ")";
        due(call + " upper", x.odds(t, u, n, k, 0), upper);
        due(call + " lower", x.odds(t, u, n, k, 1), lower);
    }

    /** A lies with 50 at 2, B does not with 40 at 3, C lies and is OFF at 9. */
    static SauceredMilk threeWitnesses() {
        SauceredMilk x = new SauceredMilk();
        x.witness(0, 2, true, 50);
        x.witness(1, 3, false, 40);
        x.witness(2, 9, true, 0);
        return x;
    }
}
