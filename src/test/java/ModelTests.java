import java.math.BigInteger;
import java.util.ArrayList;
import java.util.List;
import java.util.Random;
import java.util.TreeMap;

/**
 * Long runs of calls drawn by a fixed seed, each answer beside that of a model that reckons it in another way:
 * slow, by trying all, and with whatever the Java library has.
 */
public final class ModelTests {
    private static final int NONE = -6, UNKNOWN = -1, OUTSIDE = -2, STATE = -3, FULL = -4, NO = -5;
    private static final long REFUSED = -1000000000000000002L;
    private static final int RUNS = 600;
    private static final int CALLS = 512;

    public static void main(String[] args) {
        long checked = 0;
        for (int seed = 0; seed < RUNS; seed++) {
            Run run = new Run(seed);
            if (!run.isAsDue()) System.exit(1);
            checked += CALLS;
        }
        checked += everyTrial() + everyJug() + everyRow() + everyOdds();
        System.out.println(checked + " answers beside the model's, none wrong");
    }

    private static void same(String call, long got, long want) {
        if (got == want) return;
        System.out.println(call + " answered " + got + ", due is " + want);
        System.exit(1);
    }

    // ---- what depends on arguments alone is tried whole, by no object for more than 512 calls

    private static int everyTrial() {
        for (int n = 1; n <= 99; n++) {
            SauceredMilk x = new SauceredMilk();
            for (int k = 1; k <= 20; k++) {
                for (int what = 0; what < 2; what++) {
                    same("trials(" + n + ", " + k + ", " + what + ")", x.trials(n, k, what), trials(n, k, what));
                }
            }
        }
        return 99 * 20 * 2;
    }

    /** By the most bowls of which so many trials tell the one: one more trial adds k at most, or as many again. */
    static int trials(int n, int k, int what) {
        List<Integer> most = new ArrayList<>();
        most.add(1);
        while (most.get(most.size() - 1) < n) {
            int last = most.get(most.size() - 1);
            most.add(last + Math.min(k, last));
        }
        int needed = most.size() - 1;
        if (what == 0) return needed;
        if (needed == 0) return NONE;
        return Math.max(1, n - most.get(needed - 1));
    }

    private static int everyJug() {
        boolean[][] wins = winningJugs();
        for (int a = 0; a <= 99; a++) {
            SauceredMilk x = new SauceredMilk();
            for (int b = 0; b <= 99; b++) {
                int least = NONE;
                for (int times = 99; times >= 1; times--) {
                    if (pours(a, b, times) && !afterPour(wins, a, b, times)) least = times;
                }
                same("jugs(" + a + ", " + b + ", 1)", x.jugs(a, b, 1), least);
                same("jugs(" + a + ", " + b + ", 0)", x.jugs(a, b, 0), wins[a][b] ? 1 : 0);
            }
        }
        return 2 * 100 * 100;
    }

    private static boolean pours(int a, int b, int times) {
        return a > 0 && b > 0 && Math.max(a, b) - times * Math.min(a, b) >= 0;
    }

    private static boolean afterPour(boolean[][] wins, int a, int b, int times) {
        return a >= b ? wins[a - times * b][b] : wins[a][b - times * a];
    }

    private static boolean[][] winningJugs() {
        boolean[][] wins = new boolean[100][100];
        for (int sum = 0; sum <= 198; sum++) {
            for (int a = Math.max(0, sum - 99); a <= Math.min(sum, 99); a++) {
                int b = sum - a;
                for (int times = 1; times <= 99; times++) {
                    if (pours(a, b, times) && !afterPour(wins, a, b, times)) wins[a][b] = true;
                }
            }
        }
        return wins;
    }

    private static int everyRow() {
        int checked = 0;
        for (int n = 0; n <= 40; n++) {
            SauceredMilk x = new SauceredMilk();
            for (int j = 0; j <= n; j++) same("apart(" + n + ", " + j + ")", x.apart(n, j), rows(n, j) % 1000007);
        }
        for (int n = 0; n <= 25; n++) {
            int[] next = new int[n + 1];
            for (int bits = 0; bits < 1 << n; bits++) {
                if ((bits & bits << 1) != 0) continue;
                int j = Integer.bitCount(bits);
                int i = next[j]++;
                if (i > 99999 || n > 16 && i > 40 && i % 97 != 0) continue;
                same("row(" + n + ", " + j + ", " + i + ")", new SauceredMilk().row(n, j, i), bits);
                checked++;
            }
            for (int j = 0; j <= n; j++) {
                if (next[j] > 99999) continue;
                same("row(" + n + ", " + j + ", past the last)", new SauceredMilk().row(n, j, next[j]), NONE);
            }
        }
        return checked;
    }

    /** The last saucer is not OFF, or it is and the one ahead of it is not. */
    private static long rows(int n, int j) {
        long[][] table = new long[n + 2][j + 1];
        for (int many = 0; many <= n + 1; many++) {
            for (int off = 0; off <= j; off++) {
                if (off == 0) table[many][off] = 1;
                else if (many > 1) table[many][off] = table[many - 1][off] + table[many - 2][off - 1];
            }
        }
        return table[n + 1][j];
    }

    private static int everyOdds() {
        int checked = 0;
        for (int t = 1; t <= 9; t++) {
            for (int u = 1; u <= 9; u++) {
                SauceredMilk x = new SauceredMilk();
                for (int n = 0; n <= 15; n++) {
                    for (int k = 0; k <= n; k++) {
                        for (int part = 0; part < 2; part++) {
                            same("odds", x.odds(t, u, n, k, part), odds(t, u, n, k, part));
                            checked++;
                        }
                    }
                }
            }
        }
        return checked;
    }

    private static long odds(int t, int u, int n, int k, int part) {
        BigInteger lies = BigInteger.valueOf(t);
        BigInteger not = BigInteger.valueOf(10 - t);
        for (int i = 0; i < n; i++) {
            lies = lies.multiply(BigInteger.valueOf(i < k ? u : 10 - u));
            not = not.multiply(BigInteger.valueOf(i < k ? 10 - u : u));
        }
        BigInteger all = lies.add(not);
        BigInteger shared = all.gcd(lies);
        return (part == 0 ? lies : all).divide(shared).longValueExact();
    }

    // ---- the model

    private static final class Person {
        int place, cream;
        boolean lies;

        Person(int place, boolean lies, int cream) {
            this.place = place;
            this.lies = lies;
            this.cream = cream;
        }
    }

    private static final class Sight {
        int d, v;
        boolean lies;
    }

    private static final class Model {
        TreeMap<Integer, Person> people = new TreeMap<>();
        int place = 0, power = 3, spite = 5, hour = 0, milk = 0;
        boolean[][] ways = new boolean[12][12];
        List<Sight> sights = new ArrayList<>();
        String pad = "";
        Model[] images = new Model[2];

        int acts, firstAct, firstWitness;

        Model copy() {
            Model other = new Model();
            for (int w : people.keySet()) {
                Person p = people.get(w);
                other.people.put(w, new Person(p.place, p.lies, p.cream));
            }
            other.place = place;
            other.power = power;
            other.spite = spite;
            other.hour = hour;
            other.milk = milk;
            for (int a = 0; a < 12; a++) other.ways[a] = ways[a].clone();
            other.sights.addAll(sights);
            return other;
        }

        void take(Model other) {
            Model copy = other.copy();
            people = copy.people;
            place = copy.place;
            power = copy.power;
            spite = copy.spite;
            hour = copy.hour;
            milk = copy.milk;
            ways = copy.ways;
            sights = copy.sights;
        }

        int fault() {
            String rest = pad.replaceFirst("^(\\.|[<>][1-9]|[A-H][?=~!])*+", "");
            if (rest.isEmpty()) return NONE;
            int at = pad.length() - rest.length();
            if (!rest.matches("(?s)[<>A-H].*")) return at;
            return at + 1;
        }

        /** Does the acts of the text, as far as they can be: the reason, or 0. */
        int perform(String terms) {
            acts = 0;
            firstAct = NONE;
            firstWitness = NONE;
            String rest = terms;
            while (!rest.isEmpty()) {
                int length = rest.startsWith(".") ? 1 : 2;
                int reason = performOne(rest.substring(0, length));
                if (reason != 0) return reason;
                rest = rest.substring(length);
                acts++;
            }
            return 0;
        }

        int performOne(String act) {
            int offBefore = off();
            int reason = attempt(act);
            if (reason != 0) return reason;
            for (int w = 7; w >= 0; w--) {
                boolean turned = (off() >> w & 1) == 1 && (offBefore >> w & 1) == 0;
                if (turned && (firstAct == NONE || firstAct == acts)) {
                    firstAct = acts;
                    firstWitness = w;
                }
            }
            return 0;
        }

        int attempt(String act) {
            char first = act.charAt(0);
            if (first == '.') {
                if (hour == 99) return 5;
                hour++;
                for (Person p : people.values()) p.cream = Math.max(0, p.cream - hourly(p));
                return 0;
            }
            if (first == '<' || first == '>') {
                int steps = act.charAt(1) - '0';
                int goal = first == '<' ? place - steps : place + steps;
                if (goal < 0 || goal > 15) return 2;
                place = goal;
                return 0;
            }
            Person p = people.get(first - 'A');
            if (p == null) return 1;
            switch (act.charAt(1)) {
                case '?':
                    if (p.place - place > 1 || place - p.place > 1) return 3;
                    if (p.cream < 1) return 4;
                    p.cream -= 2 * power;
                    if (p.lies) p.cream -= 3 * spite;
                    if (p.cream < 0) p.cream = 0;
                    return 0;
                case '=':
                    if (p.cream >= 50) return 4;
                    p.cream = 50;
                    return 0;
                case '~':
                    p.lies = !p.lies;
                    return 0;
                default:
                    people.remove(first - 'A');
                    return 0;
            }
        }

        int hourly(Person p) {
            int off = Math.max(p.place, place) - Math.min(p.place, place);
            if (off > 3) return 0;
            int loss = 0;
            for (int i = off; i < 4; i++) loss += power;
            if (p.lies) loss += spite;
            return loss;
        }

        int off() {
            int bits = 0;
            for (int w : people.keySet()) if (people.get(w).cream == 0) bits |= 1 << w;
            return bits;
        }

        int countOf(boolean off, boolean lies) {
            int many = 0;
            for (Person p : people.values()) if ((p.cream == 0) == off && p.lies == lies) many++;
            return many;
        }

        int peopleBits() {
            int bits = 0;
            for (int w : people.keySet()) bits |= 1 << w;
            return bits;
        }

        boolean isWay(int a, int b) {
            return ways[a][b] || ways[b][a];
        }

        int countWays() {
            int many = 0;
            for (int a = 0; a < 12; a++) for (int b = 0; b < a; b++) if (isWay(a, b)) many++;
            return many;
        }

        boolean safe(int cell, int milky) {
            if ((milky >> cell & 1) == 1) return false;
            for (int other = 0; other < 12; other++) {
                if (isWay(cell, other) && (milky >> other & 1) == 1) return false;
            }
            return true;
        }

        /** All distances at once, over each cell in between. */
        int[][] distances(int milky) {
            int[][] far = new int[12][12];
            for (int a = 0; a < 12; a++) {
                for (int b = 0; b < 12; b++) {
                    far[a][b] = 1000;
                    if (!safe(a, milky) || !safe(b, milky)) continue;
                    if (isWay(a, b)) far[a][b] = 1;
                    if (a == b) far[a][b] = 0;
                }
            }
            for (int by = 0; by < 12; by++) {
                for (int a = 0; a < 12; a++) {
                    for (int b = 0; b < 12; b++) far[a][b] = Math.min(far[a][b], far[a][by] + far[by][b]);
                }
            }
            return far;
        }

        int round(int from, int to, int what) {
            int[][] far = distances(milk);
            if (far[from][to] >= 1000) return NONE;
            if (what == 0) return far[from][to];
            for (int cell = 0; cell < 12; cell++) {
                if (far[from][cell] == 1 && far[from][to] == 1 + far[cell][to]) return cell;
            }
            return NONE;
        }

        int shun(int from, int to, int what) {
            int best = NONE;
            for (int set = 4095; set >= 0; set--) {
                if ((set & milk) != set) continue;
                if (best != NONE && Integer.bitCount(set) > Integer.bitCount(best)) continue;
                if (walks(from, to, milk - set, new boolean[12])) best = set;
            }
            return best == NONE ? NONE : what == 0 ? Integer.bitCount(best) : best;
        }

        boolean walks(int from, int to, int milky, boolean[] been) {
            if (been[from] || !safe(from, milky)) return false;
            if (from == to) return true;
            been[from] = true;
            for (int cell = 0; cell < 12; cell++) if (isWay(from, cell) && walks(cell, to, milky, been)) return true;
            return false;
        }

        List<Integer> guesses(List<Sight> seen) {
            List<Integer> fit = new ArrayList<>();
            for (int p = 0; p <= 9; p++) {
                for (int e = 0; e <= 9; e++) {
                    boolean fits = true;
                    for (Sight s : seen) fits &= s.v == p * (4 - s.d) + (s.lies ? e : 0);
                    if (fits) fit.add(10 * p + e);
                }
            }
            return fit;
        }

        int ask(int what) {
            if (guesses(sights).isEmpty()) return NONE;
            int best = NONE;
            int fewest = 1000;
            for (int d = 3; d >= 0; d--) {
                for (int lies = 1; lies >= 0; lies--) {
                    int left = 0;
                    for (int v = 0; v <= 99; v++) {
                        List<Sight> more = new ArrayList<>(sights);
                        Sight s = new Sight();
                        s.d = d;
                        s.lies = lies == 1;
                        s.v = v;
                        more.add(s);
                        left = Math.max(left, guesses(more).size());
                    }
                    if (left <= fewest) {
                        fewest = left;
                        best = 10 * d + lies;
                    }
                }
            }
            return what == 0 ? best : fewest;
        }

        int year(int seed, int m, int what) {
            Model other = copy();
            long x = seed;
            for (int i = 0; i < m; i++) {
                x = (75 * x + 74) % 65537;
                int y = (int) (x / 8);
                String letter = String.valueOf((char) ('A' + y % 8));
                String[] acts = {">" + (1 + y % 9), "<" + (1 + y % 9), letter + "?", letter + "=", letter + "~", ".", ".", "."};
                other.attempt(acts[(int) (x % 8)]);
            }
            if (what == 0) return Integer.bitCount(other.off());
            if (what == 2) return other.place;
            int sum = 0;
            for (Person p : other.people.values()) sum += p.cream;
            return sum;
        }
    }

    // ---- one run

    private static final class Run {
        final int seed;
        final Random random;
        final SauceredMilk x = new SauceredMilk();
        final Model model = new Model();
        final StringBuilder calls = new StringBuilder();
        String toSay = "";
        String call = "";

        Run(int seed) {
            this.seed = seed;
            random = new Random(seed);
        }

        boolean isAsDue() {
            for (int i = 0; i < CALLS; i++) {
                long[] answers = toSay.isEmpty() ? next() : sayNext();
                calls.append(call).append(" = ").append(answers[0]).append('\n');
                if (answers[0] != answers[1]) {
                    System.out.print(calls);
                    System.out.println("run " + seed + ": the last answer is wrong, due is " + answers[1]);
                    return false;
                }
            }
            return true;
        }

        int in(int least, int most) {
            if (random.nextInt(60) == 0) return random.nextBoolean() ? most + 1 : least - 1;
            if (random.nextInt(400) == 0) return random.nextBoolean() ? Integer.MAX_VALUE : Integer.MIN_VALUE;
            return least + random.nextInt(most - least + 1);
        }

        static boolean out(int number, int least, int most) {
            return number < least || number > most;
        }

        long[] answers(String name, long got, long want) {
            call = name;
            return new long[] {got, want};
        }

        long[] next() {
            switch (random.nextInt(26)) {
                case 0: case 1: return witness(in(0, 7), in(0, 15), random.nextBoolean(), random.nextInt(4) == 0 ? 0 : in(0, 99));
                case 2: return he(in(0, 15), in(0, 9), in(0, 9));
                case 3: case 4: case 5: return way(in(0, 11), in(0, 11), random.nextInt(4) != 0);
                case 6: return milk(random.nextInt(5) == 0 ? in(0, 4095) : 1 << random.nextInt(12) | 1 << random.nextInt(12) & ~1 << random.nextInt(12));
                case 7: toSay = terms(); return wipe();
                case 8: return wipe();
                case 9: return answers("fault", x.fault(), model.fault());
                case 10: return judge(in(0, 1));
                case 11: return done();
                case 12: return behind(in(0, 7), in(0, 1));
                case 13: return then(in(0, 6));
                case 14: return lasts(in(0, 7));
                case 15: return round(in(0, 11), in(0, 11), in(0, 1));
                case 16: return shun(in(0, 11), in(0, 11), in(0, 1));
                case 17: return seen(in(0, 3), random.nextBoolean(), random.nextInt(12) == 0 ? in(0, 99) : -1);
                case 18: return random.nextInt(4) == 0 ? forget() : so(in(-1, 99));
                case 19: return ask(in(0, 1));
                case 20: return so(random.nextBoolean() ? -1 : random.nextInt(4));
                case 21: return year(in(0, 9999), in(1, 99), in(0, 2));
                case 22: return image(in(0, 1));
                case 23: return restore(in(0, 1));
                case 24: return told(random.nextInt(22));
                default: return told(in(98, 182));
            }
        }

        /** In some runs texts go beyond a full PAD, in some there are so many hours that there can be no more. */
        String terms() {
            if (seed % 5 == 0 && random.nextInt(3) == 0) return ".".repeat(random.nextInt(61));
            StringBuilder text = new StringBuilder();
            int many = random.nextInt(seed % 5 == 1 ? 60 : 18);
            Model as = model.copy();
            while (many-- > 0) {
                String act = drawnAct();
                boolean can = as.attempt(act) == 0;
                if (can || random.nextInt(40) == 0) text.append(act);
            }
            if (random.nextInt(12) == 0) text.append((char) (33 + random.nextInt(94)));
            if (random.nextInt(30) == 0) text.append((char) (33 + random.nextInt(94)));
            return text.toString();
        }

        String drawnAct() {
            int kind = random.nextInt(10);
            if (kind < 3) return ".";
            if (kind < 5) return (kind == 3 ? ">" : "<") + (1 + random.nextInt(random.nextBoolean() ? 9 : 2));
            return (char) ('A' + random.nextInt(8)) + "" + "???=~!".charAt(random.nextInt(6));
        }

        long[] sayNext() {
            int sign = toSay.charAt(0);
            toSay = toSay.substring(1);
            if (random.nextInt(200) == 0) return answers("say(32)", x.say(32), OUTSIDE);
            if (random.nextInt(200) == 0) return answers("say(127)", x.say(127), OUTSIDE);
            return say(sign);
        }

        long[] say(int sign) {
            String name = "say(" + sign + ")";
            if (model.pad.length() == 60) return answers(name, x.say(sign), FULL);
            model.pad += (char) sign;
            return answers(name, x.say(sign), model.pad.length());
        }

        long[] witness(int w, int place, boolean lies, int cream) {
            String name = "witness(" + w + ", " + place + ", " + lies + ", " + cream + ")";
            long got = x.witness(w, place, lies, cream);
            if (out(w, 0, 7)) return answers(name, got, UNKNOWN);
            if (out(place, 0, 15) || out(cream, 0, 99)) return answers(name, got, OUTSIDE);
            model.people.put(w, new Person(place, lies, cream));
            return answers(name, got, model.people.size());
        }

        long[] he(int place, int power, int spite) {
            String name = "he(" + place + ", " + power + ", " + spite + ")";
            long got = x.he(place, power, spite);
            if (out(place, 0, 15) || out(power, 0, 9) || out(spite, 0, 9)) return answers(name, got, OUTSIDE);
            long want = Long.parseLong("" + model.place + model.power + model.spite);
            model.place = place;
            model.power = power;
            model.spite = spite;
            return answers(name, got, want);
        }

        long[] way(int a, int b, boolean is) {
            String name = "way(" + a + ", " + b + ", " + is + ")";
            long got = x.way(a, b, is);
            if (out(a, 0, 11) || out(b, 0, 11) || a == b) return answers(name, got, UNKNOWN);
            model.ways[a][b] = is;
            model.ways[b][a] = is;
            return answers(name, got, model.countWays());
        }

        long[] milk(int cells) {
            long got = x.milk(cells);
            if (out(cells, 0, 4095)) return answers("milk(" + cells + ")", got, OUTSIDE);
            int before = model.milk;
            model.milk = cells;
            return answers("milk(" + cells + ")", got, before);
        }

        long[] wipe() {
            int before = model.pad.length();
            model.pad = "";
            return answers("wipe", x.wipe(), before);
        }

        long[] judge(int what) {
            String name = "judge(" + what + ")";
            long got = x.judge(what);
            if (out(what, 0, 1)) return answers(name, got, OUTSIDE);
            if (model.fault() != NONE) return answers(name, got, NO);
            Model other = model.copy();
            int reason = other.perform(model.pad);
            return answers(name, got, reason == 0 ? NONE : what == 0 ? other.acts : reason);
        }

        /** The model behind the TERMS; null if there is a FAULT or they can not be. */
        Model ahead() {
            Model other = model.copy();
            return model.fault() == NONE && other.perform(model.pad) == 0 ? other : null;
        }

        long[] done() {
            long got = x.done();
            Model other = ahead();
            if (other == null) return answers("done", got, NO);
            model.take(other);
            model.pad = "";
            return answers("done", got, other.acts);
        }

        long[] behind(int w, int what) {
            String name = "behind(" + w + ", " + what + ")";
            long got = x.behind(w, what);
            if (!model.people.containsKey(w)) return answers(name, got, UNKNOWN);
            if (out(what, 0, 1)) return answers(name, got, OUTSIDE);
            Model other = ahead();
            if (other == null) return answers(name, got, NO);
            Person p = other.people.get(w);
            return answers(name, got, p == null ? NONE : what == 0 ? p.cream : p.lies ? 1 : 0);
        }

        long[] then(int what) {
            String name = "then(" + what + ")";
            long got = x.then(what);
            if (out(what, 0, 6)) return answers(name, got, OUTSIDE);
            Model other = ahead();
            if (other == null) return answers(name, got, NO);
            int[] all = {other.off(), other.countOf(false, true), other.countOf(true, false), other.place, other.hour,
                other.firstAct, other.firstWitness};
            return answers(name, got, all[what]);
        }

        long[] lasts(int w) {
            String name = "lasts(" + w + ")";
            long got = x.lasts(w);
            if (!model.people.containsKey(w)) return answers(name, got, UNKNOWN);
            Person p = model.people.get(w);
            int cream = p.cream;
            for (int hours = 0; hours <= 99; hours++) {
                if (cream <= 0) return answers(name, got, hours);
                cream -= model.hourly(p);
            }
            return answers(name, got, NONE);
        }

        long[] round(int from, int to, int what) {
            String name = "round(" + from + ", " + to + ", " + what + ")";
            long got = x.round(from, to, what);
            if (out(from, 0, 11) || out(to, 0, 11)) return answers(name, got, UNKNOWN);
            return answers(name, got, out(what, 0, 1) ? OUTSIDE : model.round(from, to, what));
        }

        long[] shun(int from, int to, int what) {
            String name = "shun(" + from + ", " + to + ", " + what + ")";
            long got = x.shun(from, to, what);
            if (out(from, 0, 11) || out(to, 0, 11)) return answers(name, got, UNKNOWN);
            return answers(name, got, out(what, 0, 1) ? OUTSIDE : model.shun(from, to, what));
        }

        /** What would be lost by HIS own POWER and SPITE, if no loss is told. */
        long[] seen(int d, boolean lies, int told) {
            int v = told >= 0 || out(d, 0, 3) ? told : model.power * (4 - d) + (lies ? model.spite : 0);
            String name = "seen(" + d + ", " + lies + ", " + v + ")";
            long got = x.seen(d, lies, v);
            if (out(d, 0, 3) || out(v, 0, 99)) return answers(name, got, OUTSIDE);
            if (model.sights.size() == 8) return answers(name, got, FULL);
            Sight s = new Sight();
            s.d = d;
            s.lies = lies;
            s.v = v;
            model.sights.add(s);
            return answers(name, got, model.sights.size());
        }

        long[] forget() {
            int before = model.sights.size();
            model.sights.clear();
            return answers("forget", x.forget(), before);
        }

        long[] so(int i) {
            List<Integer> fit = model.guesses(model.sights);
            int want = i == -1 ? fit.size() : i >= 0 && i < fit.size() ? fit.get(i) : NONE;
            return answers("so(" + i + ")", x.so(i), want);
        }

        long[] ask(int what) {
            return answers("ask(" + what + ")", x.ask(what), out(what, 0, 1) ? OUTSIDE : model.ask(what));
        }

        long[] year(int from, int m, int what) {
            boolean outside = out(from, 0, 9999) || out(m, 1, 99) || out(what, 0, 2);
            String name = "year(" + from + ", " + m + ", " + what + ")";
            return answers(name, x.year(from, m, what), outside ? OUTSIDE : model.year(from, m, what));
        }

        long[] image(int n) {
            long got = x.image(n);
            if (out(n, 0, 1)) return answers("image(" + n + ")", got, OUTSIDE);
            model.images[n] = model.copy();
            return answers("image(" + n + ")", got, 1);
        }

        long[] restore(int n) {
            long got = x.restore(n);
            if (out(n, 0, 1)) return answers("restore(" + n + ")", got, OUTSIDE);
            if (model.images[n] == null) return answers("restore(" + n + ")", got, STATE);
            model.take(model.images[n]);
            return answers("restore(" + n + ")", got, 1);
        }

        long[] told(int what) {
            return answers("told(" + what + ")", x.told(what), toldBy(what));
        }

        int toldBy(int what) {
            int[] all = {model.pad.length(), model.peopleBits(), model.off(), model.place, model.power, model.spite,
                model.hour, model.milk, model.sights.size()};
            if (!out(what, 0, 8)) return all[what];
            if (!out(what, 10, 21)) {
                int bits = 0;
                for (int b = 0; b < 12; b++) if (model.isWay(what - 10, b)) bits += 1 << b;
                return bits;
            }
            for (int w : model.people.keySet()) {
                Person p = model.people.get(w);
                if (what == 100 + 10 * w) return p.place;
                if (what == 101 + 10 * w) return p.lies ? 1 : 0;
                if (what == 102 + 10 * w) return p.cream;
            }
            return OUTSIDE;
        }
    }
}
