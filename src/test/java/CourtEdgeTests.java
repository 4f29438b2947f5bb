/** The edges that the document names for witnesses, HIM, the town and the signs on the PAD: promises 1 to 8. */
public final class CourtEdgeTests extends Checks {
    private static final int FIRST_CODE = 33, LAST_CODE = 126;

    public static void main(String[] args) {
        noneThereAtFirst(); heAtFirst(); hourAtFirst(); townAtFirst(); padAtFirst(); othersDoNotMatter();
        witnessNumbers(); witnessLetters(); places(); severalAtOnePlace(); creams(); offAtNone(); anew(); anewWhenAll();
        hisNumbers(); asTheyWere();
        cells(); oneCell(); bothWays(); noWays(); allWays(); wayTwice();
        milkBits(); milkBefore();
        codes(); sixtySigns(); roomAgain();
        wipeEmpty(); wipeFull();
        faultOfNone(); firstSigns(); digits(); behindLetters(); behindAnAct(); moreMustCome(); firstOfTwoFaults();
        faultAtTheEnd(); fullWithoutFault(); goneSigns();
        end();
    }

    // ---- promise 1

    private static void noneThereAtFirst() {
        asks(1, "none of whom are there at first");
        SauceredMilk x = new SauceredMilk();
        toldIs(x, 1, 0, 0);
        for (int what = 100; what < 180; what++) due("told(" + what + ")", x.told(what), OUTSIDE);
        for (int witness = 0; witness < 8; witness++) due("lasts " + witness, x.lasts(witness), UNKNOWN);
        thenIs(x, 0, 0, 0, 0, 0, NONE, NONE);
    }

    private static void heAtFirst() {
        asks(1, "HE is at a PLACE (0 at first), has POWER (3 at first) and SPITE (5 at first)");
        toldIs(new SauceredMilk(), 3, 0, 3, 5);
        due("he", new SauceredMilk().he(0, 0, 0), 35);
    }

    private static void hourAtFirst() {
        asks(1, "It is hour 0 at first");
        due("hour", new SauceredMilk().told(6), 0);
        due("hour behind no TERMS", new SauceredMilk().then(4), 0);
    }

    private static void townAtFirst() {
        asks(1, "WAYS (none at first), MILK in some (none at first)");
        SauceredMilk x = new SauceredMilk();
        toldIs(x, 10, 0, 0, 0, 0, 0, 0, 0, 0, 0, 0, 0, 0);
        due("milk", x.told(7), 0);
        for (int cell = 1; cell < 12; cell++) due("round to " + cell, x.round(0, cell, 0), NONE);
        for (int cell = 0; cell < 12; cell++) due("round from " + cell, x.round(cell, cell, 0), 0);
    }

    private static void padAtFirst() {
        asks(1, "a new object has no signs, SIGHTS or IMAGES");
        SauceredMilk x = new SauceredMilk();
        due("signs", x.told(0), 0);
        due("sights", x.told(8), 0);
        due("image 0", x.restore(0), STATE);
        due("image 1", x.restore(1), STATE);
    }

    private static void othersDoNotMatter() {
        asks(1, "a new object is new, whatever was done to others");
        SauceredMilk used = threeWitnesses();
        used.he(9, 9, 9);
        used.way(0, 1, true);
        used.milk(1);
        used.seen(0, true, 0);
        used.image(0);
        write(used, "..");
        SauceredMilk x = new SauceredMilk();
        toldIs(x, 0, 0, 0, 0, 0, 3, 5, 0, 0, 0);
        due("no way", x.told(10), 0);
        due("no image", x.restore(0), STATE);
        x.witness(5, 5, true, 5);
        due("nor the other way round", used.told(1), 7);
    }

    // ---- promise 2

    private static void witnessNumbers() {
        asks(2, "WITNESSES 0 to 7");
        edges("witness", 0, 7, UNKNOWN, n -> new SauceredMilk().witness(n, 0, true, 1));
    }

    private static void witnessLetters() {
        asks(2, "WITNESSES 0 to 7 (A to H)");
        for (int witness = 0; witness < 8; witness++) {
            SauceredMilk x = new SauceredMilk();
            x.witness(witness, 0, false, 1);
            for (char letter = 'A'; letter <= 'H'; letter++) {
                boolean his = letter - 'A' == witness;
                judged(x, letter + "~", his ? NONE : 0, his ? NONE : 1);
            }
        }
    }

    private static void places() {
        asks(2, "each sits at a PLACE 0 to 15");
        edges("place", 0, 15, OUTSIDE, n -> new SauceredMilk().witness(0, n, true, 1));
        for (int place = 0; place < 16; place++) {
            SauceredMilk x = new SauceredMilk();
            x.witness(4, place, true, 1);
            due("place told", x.told(140), place);
        }
    }

    private static void severalAtOnePlace() {
        asks(2, "several may sit at one");
        SauceredMilk x = new SauceredMilk();
        for (int witness = 0; witness < 8; witness++) due("witness", x.witness(witness, 15, false, 90), witness + 1);
        x.he(15, 1, 1);
        hours(x, 1);
        for (int witness = 0; witness < 8; witness++) toldIs(x, 100 + 10 * witness, 15, 0, 86);
    }

    private static void creams() {
        asks(2, "a saucer with CREAM (0 to 99)");
        edges("cream", 0, 99, OUTSIDE, n -> new SauceredMilk().witness(0, 0, true, n));
        for (int cream : new int[] {0, 1, 50, 98, 99}) {
            SauceredMilk x = new SauceredMilk();
            x.witness(7, 0, true, cream);
            due("cream told", x.told(172), cream);
        }
    }

    private static void offAtNone() {
        asks(2, "0: it is OFF");
        SauceredMilk x = new SauceredMilk();
        x.witness(0, 0, false, 1);
        due("one is not OFF", x.told(2), 0);
        x.witness(0, 0, false, 0);
        due("none is OFF", x.told(2), 1);
        x.witness(7, 0, true, 0);
        due("both ends", x.told(2), 129);
        for (int witness = 0; witness < 8; witness++) x.witness(witness, 0, true, 0);
        due("all eight", x.told(2), 255);
    }

    private static void anew() {
        asks(2, "A WITNESS is there (or anew): how many are");
        SauceredMilk x = new SauceredMilk();
        due("the first", x.witness(2, 3, true, 4), 1);
        due("anew", x.witness(2, 15, false, 99), 1);
        toldIs(x, 120, 15, 0, 99);
        due("anew the same", x.witness(2, 15, false, 99), 1);
        due("another", x.witness(3, 0, true, 0), 2);
        write(x, "C!");
        due("let go", x.done(), 1);
        due("the other anew", x.witness(3, 0, true, 0), 1);
        due("he is there again", x.witness(2, 1, true, 2), 2);
        toldIs(x, 120, 1, 1, 2);
    }

    private static void anewWhenAll() {
        asks(2, "how many are, when all are");
        SauceredMilk x = new SauceredMilk();
        for (int witness = 7; witness >= 0; witness--) due("witness", x.witness(witness, 0, true, 1), 8 - witness);
        for (int witness = 0; witness < 8; witness++) due("anew", x.witness(witness, 1, false, 2), 8);
    }

    // ---- promise 3

    private static void hisNumbers() {
        asks(3, "a PLACE 0 to 15, POWER 0 to 9, SPITE 0 to 9");
        edges("his place", 0, 15, OUTSIDE, n -> new SauceredMilk().he(n, 0, 0));
        edges("his power", 0, 9, OUTSIDE, n -> new SauceredMilk().he(0, n, 0));
        edges("his spite", 0, 9, OUTSIDE, n -> new SauceredMilk().he(0, 0, n));
    }

    private static void asTheyWere() {
        asks(3, "100 times the PLACE, 10 times POWER and SPITE, as they were");
        SauceredMilk x = new SauceredMilk();
        due("as at first", x.he(15, 9, 9), 35);
        due("the most of all", x.he(0, 0, 0), 1599);
        due("the least of all", x.he(0, 0, 9), 0);
        due("spite alone", x.he(0, 9, 0), 9);
        due("power alone", x.he(15, 0, 0), 90);
        due("the place alone", x.he(1, 2, 3), 1500);
        toldIs(x, 3, 1, 2, 3);
        write(x, ">9");
        x.done();
        due("where HE has gone", x.he(0, 0, 0), 1023);
    }

    // ---- promise 4

    private static void cells() {
        asks(4, "CELLS 0 to 11 (a to l): UNKNOWN: both");
        edges("a way from", 0, 11, UNKNOWN, n -> new SauceredMilk().way(n, n == 5 ? 6 : 5, true));
        edges("a way to", 0, 11, UNKNOWN, n -> new SauceredMilk().way(n == 5 ? 6 : 5, n, true));
        edges("no way from", 0, 11, UNKNOWN, n -> new SauceredMilk().way(n, n == 5 ? 6 : 5, false));
        edges("no way to", 0, 11, UNKNOWN, n -> new SauceredMilk().way(n == 5 ? 6 : 5, n, false));
        due("neither is", new SauceredMilk().way(-1, 12, true), UNKNOWN);
        due("twice one that is not", new SauceredMilk().way(12, 12, true), UNKNOWN);
    }

    private static void oneCell() {
        asks(4, "UNKNOWN: both, also one");
        SauceredMilk x = new SauceredMilk();
        for (int cell = 0; cell < 12; cell++) {
            due("way(" + cell + " twice, true)", x.way(cell, cell, true), UNKNOWN);
            due("way(" + cell + " twice, false)", x.way(cell, cell, false), UNKNOWN);
            due("no way to itself", x.told(10 + cell), 0);
        }
        due("none of it counts", x.way(0, 1, false), 0);
    }

    private static void bothWays() {
        asks(4, "WAYS between two of them, both ways");
        SauceredMilk x = new SauceredMilk();
        due("from the first to the last", x.way(0, 11, true), 1);
        due("as seen from the first", x.told(10), 1 << 11);
        due("as seen from the last", x.told(21), 1);
        due("there", x.round(0, 11, 0), 1);
        due("and back", x.round(11, 0, 0), 1);
        due("gone from the other end", x.way(11, 0, false), 0);
        due("as seen from the first", x.told(10), 0);
        due("as seen from the last", x.told(21), 0);
    }

    private static void noWays() {
        asks(4, "or none: how many there are, when there are none");
        SauceredMilk x = new SauceredMilk();
        due("none there", x.way(3, 4, false), 0);
        due("one", x.way(3, 4, true), 1);
        due("none again", x.way(3, 4, false), 0);
        due("none still", x.way(4, 3, false), 0);
    }

    private static void allWays() {
        asks(4, "how many there are, up to all");
        SauceredMilk x = new SauceredMilk();
        int ways = 0;
        for (int a = 0; a < 12; a++) for (int b = a + 1; b < 12; b++) due("one more", x.way(a, b, true), ++ways);
        due("all", ways, 66);
        due("no more than all", x.way(11, 10, true), 66);
        for (int cell = 0; cell < 12; cell++) due("told", x.told(10 + cell), 4095 - (1 << cell));
        for (int a = 0; a < 12; a++) for (int b = a + 1; b < 12; b++) due("one less", x.way(b, a, false), --ways);
        toldIs(x, 10, 0, 0, 0, 0, 0, 0, 0, 0, 0, 0, 0, 0);
    }

    private static void wayTwice() {
        asks(4, "how many there are, one that is there being said again");
        SauceredMilk x = new SauceredMilk();
        x.way(6, 7, true);
        due("again", x.way(6, 7, true), 1);
        due("again from the other end", x.way(7, 6, true), 1);
        due("another from the same", x.way(6, 5, true), 2);
        due("gone at once", x.way(7, 6, false), 1);
    }

    // ---- promise 5

    private static void milkBits() {
        asks(5, "CELLS with MILK (bits 0 to 4095)");
        edges("milk", 0, 4095, OUTSIDE, n -> new SauceredMilk().milk(n));
        for (int cell = 0; cell < 12; cell++) {
            SauceredMilk x = new SauceredMilk();
            x.milk(1 << cell);
            due("milk in " + cell, x.told(7), 1 << cell);
            for (int other = 0; other < 12; other++) {
                due("round in " + other, x.round(other, other, 0), other == cell ? NONE : 0);
            }
        }
    }

    private static void milkBefore() {
        asks(5, "which had");
        SauceredMilk x = new SauceredMilk();
        due("none at first", x.milk(4095), 0);
        due("all", x.milk(4095), 4095);
        due("all still", x.milk(0), 4095);
        due("none", x.milk(2048), 0);
        due("not these too, but these", x.milk(1), 2048);
        due("told", x.told(7), 1);
    }

    // ---- promise 6

    private static void codes() {
        asks(6, "SIGNS, codes 33 to 126");
        edges("say", FIRST_CODE, LAST_CODE, OUTSIDE, n -> new SauceredMilk().say(n));
        for (int code = FIRST_CODE; code <= LAST_CODE; code++) {
            due("say " + code, new SauceredMilk().say(code), 1);
            due("say a code's low byte", new SauceredMilk().say(code + 256), OUTSIDE);
            due("say a code as a char", new SauceredMilk().say(code + 65536), OUTSIDE);
        }
    }

    private static void sixtySigns() {
        asks(6, "a PAD (60 SIGNS at most); FULL");
        SauceredMilk x = new SauceredMilk();
        for (int i = 1; i <= 60; i++) due("sign " + i, x.say(i == 60 ? 'x' : '.'), i);
        due("sign 61", x.say('.'), FULL);
        due("sign 61 again", x.say('A'), FULL);
        due("signs", x.told(0), 60);
        due("the last one that was taken", x.fault(), 59);
    }

    private static void roomAgain() {
        asks(6, "60 SIGNS at most: there is room again behind wipe() and done()");
        SauceredMilk x = new SauceredMilk();
        for (int i = 0; i < 60; i++) x.say('.');
        x.wipe();
        for (int i = 1; i <= 60; i++) due("sign " + i + " behind wipe", x.say('.'), i);
        due("full", x.say('.'), FULL);
        due("done", x.done(), 60);
        for (int i = 1; i <= 60; i++) due("sign " + i + " behind done", x.say('.'), i);
        due("full", x.say('.'), FULL);
    }

    // ---- promise 7

    private static void wipeEmpty() {
        asks(7, "Signs go: how many there were, none being there");
        SauceredMilk x = new SauceredMilk();
        due("a new PAD", x.wipe(), 0);
        due("one sign", x.say('A'), 1);
        due("one went", x.wipe(), 1);
        due("none is left", x.wipe(), 0);
        due("no FAULT is left", x.fault(), NONE);
        due("done leaves none", x.done(), 0);
        due("none", x.wipe(), 0);
    }

    private static void wipeFull() {
        asks(7, "Signs go: how many there were, all being there");
        SauceredMilk x = new SauceredMilk();
        for (int i = 0; i < 60; i++) x.say('~');
        x.say('~');
        due("a full PAD", x.wipe(), 60);
        due("none is left", x.told(0), 0);
        due("the first anew", x.say('.'), 1);
        due("what was said is gone", x.fault(), NONE);
    }

    // ---- promise 8

    private static void faultIs(String terms, int want) {
        SauceredMilk x = new SauceredMilk();
        write(x, terms);
        due("fault of " + terms, x.fault(), want);
    }

    private static boolean isOneOf(String signs, int code) {
        return signs.indexOf(code) >= 0;
    }

    private static void faultOfNone() {
        asks(8, "an empty PAD has none");
        SauceredMilk x = new SauceredMilk();
        due("new", x.fault(), NONE);
        x.say('x');
        x.wipe();
        due("wiped", x.fault(), NONE);
        x.say('.');
        x.done();
        due("done", x.fault(), NONE);
    }

    private static void firstSigns() {
        asks(8, "the first sign that can not stand there: > or <, a WITNESS's letter, or .");
        for (int code = FIRST_CODE; code <= LAST_CODE; code++) {
            faultIs("" + (char) code, code == '.' ? NONE : isOneOf("<>ABCDEFGH", code) ? 1 : 0);
        }
    }

    private static void digits() {
        asks(8, "> and a digit 1 to 9, < and a digit");
        for (int code = FIRST_CODE; code <= LAST_CODE; code++) {
            faultIs(">" + (char) code, isOneOf("123456789", code) ? NONE : 1);
            faultIs("<" + (char) code, isOneOf("123456789", code) ? NONE : 1);
        }
    }

    private static void behindLetters() {
        asks(8, "a WITNESS's letter and: ?, =, ~ or !");
        for (char letter = 'A'; letter <= 'H'; letter++) {
            for (int code = FIRST_CODE; code <= LAST_CODE; code++) {
                faultIs("" + letter + (char) code, isOneOf("?=~!", code) ? NONE : 1);
            }
        }
    }

    private static void behindAnAct() {
        asks(8, "a text of ACTS: behind one, another one begins");
        for (String act : new String[] {".", ">9", "<1", "A?", "H!"}) {
            for (int code = FIRST_CODE; code <= LAST_CODE; code++) {
                int length = act.length();
                faultIs(act + (char) code, code == '.' ? NONE : isOneOf("<>ABCDEFGH", code) ? length + 1 : length);
            }
        }
    }

    private static void moreMustCome() {
        asks(8, "the number of signs, if more must come");
        for (String sign : new String[] {">", "<", "A", "H"}) {
            faultIs(sign, 1);
            faultIs("." + sign, 2);
            faultIs(">9" + sign, 3);
            faultIs(".".repeat(59) + sign, 60);
        }
        SauceredMilk x = new SauceredMilk();
        write(x, ".".repeat(59) + "A");
        due("nothing more can come", x.say('?'), FULL);
        due("the FAULT stays", x.fault(), 60);
    }

    private static void firstOfTwoFaults() {
        asks(8, "the place of the first sign that can not stand there");
        faultIs("xx", 0);
        faultIs("x>", 0);
        faultIs(".x>", 1);
        faultIs(">x<", 1);
        faultIs(">x.", 1);
        faultIs("A?AxA", 3);
        faultIs("A?xA", 2);
    }

    private static void faultAtTheEnd() {
        asks(8, "the place (from 0 on) of the first sign that can not stand there, the last of a full PAD");
        faultIs(".".repeat(59) + "x", 59);
        faultIs(".".repeat(58) + "Ax", 59);
        faultIs(".".repeat(58) + "xx", 58);
        faultIs("x" + ".".repeat(59), 0);
    }

    private static void fullWithoutFault() {
        asks(8, "THE FAULT of a full PAD in which every sign can stand");
        faultIs(".".repeat(60), NONE);
        faultIs("A!".repeat(30), NONE);
        faultIs(".".repeat(58) + "H~", NONE);
        faultIs(".".repeat(58) + ">9", NONE);
    }

    private static void goneSigns() {
        asks(8, "the number of signs, if more must come: those that went do not come again");
        SauceredMilk x = new SauceredMilk();
        for (String act : new String[] {"A?", "H!", ">1", "<9"}) {
            write(x, act);
            due("fault of " + act, x.fault(), NONE);
            write(x, act.substring(0, 1));
            due("behind wipe, fault of " + act.charAt(0), x.fault(), 1);
        }
        write(x, ">1");
        due("done", x.done(), 1);
        due("say", x.say('>'), 1);
        due("behind done, fault of >", x.fault(), 1);
        due("judge", x.judge(0), NO);
    }
}
