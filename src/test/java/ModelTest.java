import java.math.BigInteger;
import java.util.ArrayList;
import java.util.HashMap;
import java.util.List;
import java.util.Map;
import java.util.Random;
import java.util.TreeSet;
import java.util.regex.Pattern;

/**
 * The same calls on the class and on a slow model that is written anew from the document, by other means:
 * regular expressions, lists, big numbers, a die as a cube in space. The seed is fixed, so a run is always the same.
 */
public final class ModelTest {
    private static final int UNKNOWN = -1, OUTSIDE = -2, STATE = -3, FULL = -4, NO = -5, NONE = -6;
    private static final BigInteger GONE_OUTSIDE = BigInteger.valueOf(-1000000000000000002L);
    private static int wrong = 0;
    private static long compared = 0;

    private static void due(String what, long got, long want) {
        compared++;
        if (got != want && wrong++ < 30) {
            System.out.println(what + " answered " + got + ", the model says " + want);
        }
    }

    private static final int CALLS = 512;
    private static BeetleDrive lent;
    private static int used = CALLS;

    /** An object for n calls more: a new one, if the last would be used for more than is promised. */
    private static BeetleDrive forCalls(int n) {
        if (used + n > CALLS) {
            lent = new BeetleDrive();
            used = 0;
        }
        used += n;
        return lent;
    }

    public static void main(String[] args) {
        everyBeetle();
        everySum();
        everyRoll();
        everyTurn();
        for (int run = 0; run < 9000; run++) {
            randomRun(run);
        }
        System.out.println(wrong == 0 ? compared + " answers are as the model's" : wrong + " answers are not as due");
        if (wrong != 0) {
            System.exit(1);
        }
    }

    // ---- beetles: counts of parts by name, {body, head, tail, legs, feelers, eyes}

    private static final int[] LIMIT = {1, 1, 1, 6, 2, 2};

    private static int[] figures(int drawn) {
        String text = String.format("%06d", drawn);
        int[] parts = new int[6];
        for (int i = 0; i < 6; i++) {
            parts[i] = text.charAt(i) - '0';
        }
        return parts;
    }

    private static boolean canBe(int drawn) {
        if (drawn < 0 || drawn > 999999) {
            return false;
        }
        int[] p = figures(drawn);
        for (int i = 0; i < 6; i++) {
            if (p[i] > LIMIT[i]) {
                return false;
            }
        }
        boolean noBody = p[0] == 0;
        boolean noHead = p[1] == 0;
        return !(noBody && p[1] + p[2] + p[3] > 0) && !(noHead && p[4] + p[5] > 0);
    }

    private static int number(int[] p) {
        int n = 0;
        for (int figure : p) {
            n = n * 10 + figure;
        }
        return n;
    }

    private static int sum(int[] p) {
        int n = 0;
        for (int figure : p) {
            n += figure;
        }
        return n;
    }

    /** The beetle with one part more, or null: part i is drawn by 6 - i. */
    private static int[] more(int[] p, int thrown) {
        int[] q = p.clone();
        q[6 - thrown]++;
        return canBe(number(q)) && q[6 - thrown] <= LIMIT[6 - thrown] ? q : null;
    }

    private static final Map<Integer, Long> ORDERS = new HashMap<>();
    private static final Map<String, BigInteger> WAYS = new HashMap<>();

    private static long orders(int[] p) {
        Long known = ORDERS.get(number(p));
        if (known != null) {
            return known;
        }
        long n = sum(p) == 13 ? 1 : 0;
        for (int thrown = 1; thrown <= 6; thrown++) {
            int[] q = more(p, thrown);
            n += q == null ? 0 : orders(q);
        }
        ORDERS.put(number(p), n);
        return n;
    }

    private static BigInteger ways(int[] p, int n) {
        if (n == 0) {
            return sum(p) == 13 ? BigInteger.ONE : BigInteger.ZERO;
        }
        String key = number(p) + "/" + n;
        BigInteger known = WAYS.get(key);
        if (known != null) {
            return known;
        }
        BigInteger all = BigInteger.ZERO;
        for (int thrown = 1; thrown <= 6; thrown++) {
            int[] q = more(p, thrown);
            all = all.add(ways(q == null ? p : q, n - 1));
        }
        WAYS.put(key, all);
        return all;
    }

    private static BigInteger fraction(int drawn, int n, int part) {
        if (!canBe(drawn) || n < 0 || n > 24 || part < 0 || part > 1) {
            return GONE_OUTSIDE;
        }
        BigInteger upper = ways(figures(drawn), n);
        BigInteger lower = BigInteger.valueOf(6).pow(n);
        BigInteger shared = upper.gcd(lower);
        return (part == 0 ? upper : lower).divide(shared);
    }

    private static int leastFirst(int drawn) {
        for (int thrown = 1; thrown <= 6; thrown++) {
            if (more(figures(drawn), thrown) != null) {
                return thrown;
            }
        }
        return NONE;
    }

    private static void everyBeetle() {
        int found = 0;
        for (int drawn = -5; drawn <= 112000; drawn++) {
            boolean can = canBe(drawn);
            BeetleDrive x = forCalls(can ? 60 : 2);
            due("orders " + drawn, x.orders(drawn, 0), can ? orders(figures(drawn)) : OUTSIDE);
            due("player " + drawn, x.player(0, drawn, 0), can ? 0 : OUTSIDE);
            if (can) {
                found++;
                due("told " + drawn, x.told(10), drawn);
                due("behind " + drawn, x.behind(0, 0), sum(figures(drawn)));
                due("first number " + drawn, x.orders(drawn, 1), leastFirst(drawn));
                for (int n = -1; n <= 25; n++) {
                    due("whole " + drawn + " " + n, x.whole(drawn, n, 0), fraction(drawn, n, 0).longValueExact());
                    due("whole by " + drawn + " " + n, x.whole(drawn, n, 1), fraction(drawn, n, 1).longValueExact());
                }
            }
        }
        due("beetles that can be", found, 141);
    }

    // ---- sums: by the formula with signs, not by adding dice

    private static BigInteger choose(int n, int k) {
        BigInteger c = BigInteger.ONE;
        for (int i = 0; i < k; i++) {
            c = c.multiply(BigInteger.valueOf(n - i)).divide(BigInteger.valueOf(i + 1));
        }
        return n < k ? BigInteger.ZERO : c;
    }

    private static void everySum() {
        for (int k = -1; k <= 14; k++) {
            for (int s = -2; s <= 102; s++) {
                BigInteger n = BigInteger.ZERO;
                for (int j = 0; j <= k && s - 6 * j - 1 >= 0; j++) {
                    BigInteger term = choose(k, j).multiply(choose(s - 6 * j - 1, k - 1));
                    n = j % 2 == 0 ? n.add(term) : n.subtract(term);
                }
                boolean fine = k >= 1 && k <= 12 && s >= 0 && s <= 99;
                due("sums " + k + " " + s, forCalls(1).sums(k, s), fine ? n.longValueExact() : OUTSIDE);
            }
        }
    }

    // ---- a die: {top, bottom, front, back, right, left}, found by rolling from 1 on top, 2 to the front, 3 right

    private static int[] rolledOnce(int[] d, int way) {
        switch (way) {
            case 0:
                return new int[] {d[3], d[2], d[0], d[1], d[4], d[5]};
            case 1:
                return new int[] {d[5], d[4], d[2], d[3], d[0], d[1]};
            case 2:
                return new int[] {d[2], d[3], d[1], d[0], d[4], d[5]};
            default:
                return new int[] {d[4], d[5], d[2], d[3], d[1], d[0]};
        }
    }

    private static final Map<Integer, int[]> LIES = new HashMap<>();

    private static void reach(int[] d) {
        if (LIES.putIfAbsent(d[0] * 10 + d[2], d) == null) {
            for (int way = 0; way < 4; way++) {
                reach(rolledOnce(d, way));
            }
        }
    }

    private static final Pattern ROW = Pattern.compile("1[0-3]{0,6}");

    private static boolean isRow(int row) {
        return ROW.matcher(Integer.toString(row)).matches();
    }

    private static int top(int lie, int row) {
        int[] d = LIES.get(lie);
        String ways = Integer.toString(row).substring(1);
        for (int i = 0; i < ways.length(); i++) {
            d = rolledOnce(d, ways.charAt(i) - '0');
        }
        return d[0];
    }

    private static void everyRoll() {
        reach(new int[] {1, 6, 2, 5, 3, 4});
        due("ways to lie", LIES.size(), 24);
        for (int lie = -5; lie <= 130; lie++) {
            for (int row = -20; row <= 1400; row++) {
                boolean fine = LIES.containsKey(lie) && isRow(row);
                due("roll " + lie + " " + row, forCalls(1).roll(lie, row), fine ? top(lie, row) : OUTSIDE);
            }
        }
        for (int row = 9990; row <= 1340000; row += 1) {
            due("roll 35 " + row, forCalls(1).roll(35, row), isRow(row) ? top(35, row) : OUTSIDE);
        }
    }

    // ---- turns: tried out to the end, from the definition

    private static final Map<Integer, Boolean> WINS = new HashMap<>();

    private static boolean wins(int n, int f) {
        Boolean known = WINS.get(n * 10 + f);
        if (known != null) {
            return known;
        }
        boolean can = winningTurn(n, f) != NONE;
        WINS.put(n * 10 + f, can);
        return can;
    }

    private static int winningTurn(int n, int f) {
        for (int to = 1; to <= 6; to++) {
            if (to != f && to + f != 7 && n - to >= 0 && !wins(n - to, to)) {
                return to;
            }
        }
        return NONE;
    }

    private static void everyTurn() {
        for (int n = -1; n <= 101; n++) {
            for (int f = 0; f <= 7; f++) {
                boolean fine = n >= 0 && n <= 99 && f >= 1 && f <= 6;
                due("turn " + n + " " + f, forCalls(1).turn(n, f, 1), fine ? winningTurn(n, f) : OUTSIDE);
                due("wins " + n + " " + f, forCalls(1).turn(n, f, 0), !fine ? OUTSIDE : wins(n, f) ? 1 : 0);
            }
        }
    }

    // ---- the game

    private static final class World {
        int[][] beetle = new int[6][6];
        int[] points = new int[6];
        TreeSet<Integer> in = new TreeSet<>(List.of(0, 1, 2, 3, 4, 5));
        int die = 0;
        int game = 0;
        List<int[]> sights = new ArrayList<>();

        World copy() {
            World w = new World();
            for (int p = 0; p < 6; p++) {
                w.beetle[p] = beetle[p].clone();
            }
            w.points = points.clone();
            w.in = new TreeSet<>(in);
            w.die = die;
            w.game = game;
            w.sights = new ArrayList<>(sights);
            return w;
        }

        void goesOn() {
            Integer next = in.higher(die);
            die = next != null ? next : in.first();
        }

        /** An act as a text: a digit, a dot, or a letter with ! or #. */
        int reason(String act) {
            char last = act.charAt(act.length() - 1);
            int who = act.charAt(0) - 'A';
            if (Character.isDigit(last) && sum(beetle[die]) == 13) {
                return 1;
            }
            if (last == '!' && (sum(beetle[who]) != 13 || !in.contains(who))) {
                return 2;
            }
            if (last == '#' && in.size() == 1 && in.contains(who)) {
                return 3;
            }
            return last == '!' && game == 99 ? 4 : 0;
        }

        /** Whether it was a throw that drew nothing. */
        boolean act(String act) {
            char last = act.charAt(act.length() - 1);
            int who = act.charAt(0) - 'A';
            if (last == '.') {
                goesOn();
            } else if (last == '!') {
                for (int p = 0; p < 6; p++) {
                    points[p] = Math.min(999, points[p] + sum(beetle[p]));
                    beetle[p] = new int[6];
                }
                die = who;
                game++;
            } else if (last == '#') {
                if (!in.remove(who)) {
                    in.add(who);
                }
                if (die == who) {
                    goesOn();
                }
            } else {
                int[] next = more(beetle[die], last - '0');
                if (next == null) {
                    goesOn();
                    return true;
                }
                beetle[die] = next;
            }
            return false;
        }
    }

    private static final Pattern ACTS = Pattern.compile("([1-6.]|[A-F][!#])*");
    private static final Pattern BEGUN = Pattern.compile("([1-6.]|[A-F][!#])*[A-F]?");

    private static final class Model {
        World now = new World();
        World[] kept = new World[2];
        String pad = "";

        World after;
        int badAct;
        int why;
        int vain;
        int wholeAct;
        int wholeWho;
        int acts;

        int fault() {
            if (ACTS.matcher(pad).matches()) {
                return NONE;
            }
            for (int i = 1; i <= pad.length(); i++) {
                if (!BEGUN.matcher(pad.substring(0, i)).matches()) {
                    return i - 1;
                }
            }
            return pad.length();
        }

        int play() {
            if (fault() != NONE) {
                return NO;
            }
            after = now.copy();
            badAct = NONE;
            why = NONE;
            vain = 0;
            wholeAct = NONE;
            wholeWho = NONE;
            String[] list = pad.isEmpty() ? new String[0] : pad.split("(?<=[1-6.!#])");
            acts = list.length;
            for (int i = 0; i < list.length; i++) {
                if (after.reason(list[i]) != 0) {
                    badAct = i;
                    why = after.reason(list[i]);
                    return STATE;
                }
                int who = after.die;
                boolean was = sum(after.beetle[who]) == 13;
                vain += after.act(list[i]) ? 1 : 0;
                if (!was && sum(after.beetle[who]) == 13 && wholeAct == NONE) {
                    wholeAct = i;
                    wholeWho = who;
                }
            }
            return 0;
        }

        int judge(int what) {
            if (what < 0 || what > 2) {
                return OUTSIDE;
            }
            int refused = play();
            if (refused == NO) {
                return NO;
            }
            return what == 0 ? badAct : what == 1 ? why : refused == STATE ? STATE : vain;
        }

        int behind(int p, int what) {
            if (p < 0 || p > 5) {
                return UNKNOWN;
            }
            if (what < 0 || what > 3) {
                return OUTSIDE;
            }
            int refused = play();
            if (refused != 0) {
                return refused;
            }
            int[] all = {sum(after.beetle[p]), after.points[p], after.in.contains(p) ? 1 : 0, number(after.beetle[p])};
            return all[what];
        }

        int table(int what) {
            if (what < 0 || what > 3) {
                return OUTSIDE;
            }
            int refused = play();
            if (refused != 0) {
                return refused;
            }
            int bits = 0;
            int most = -1;
            int who = 0;
            for (int p = 0; p < 6; p++) {
                bits += sum(after.beetle[p]) == 13 ? 1 << p : 0;
                int all = after.points[p] + sum(after.beetle[p]);
                if (all > most) {
                    most = all;
                    who = p;
                }
            }
            return new int[] {after.die, after.game, bits, who}[what];
        }

        int first(int what) {
            if (what < 0 || what > 1) {
                return OUTSIDE;
            }
            int refused = play();
            return refused != 0 ? refused : what == 0 ? wholeAct : wholeWho;
        }

        int done() {
            int refused = play();
            if (refused != 0) {
                return refused;
            }
            now = after;
            pad = "";
            return acts;
        }

        int year(int seed, int m, int what) {
            if (seed < 0 || seed > 9999 || m < 1 || m > 99 || what < 0 || what > 2) {
                return OUTSIDE;
            }
            World w = now.copy();
            long x = seed;
            for (int i = 0; i < m; i++) {
                x = (75 * x + 74) % 65537;
                long y = x / 8;
                String letter = String.valueOf((char) ('A' + y % 6));
                String act;
                if (x % 8 == 7) {
                    act = letter + "!";
                } else if (x % 8 == 6) {
                    act = y / 6 % 4 == 0 ? letter + "#" : ".";
                } else {
                    act = String.valueOf(1 + y % 6);
                }
                if (w.reason(act) == 0) {
                    w.act(act);
                }
            }
            int parts = 0;
            for (int[] b : w.beetle) {
                parts += sum(b);
            }
            return new int[] {w.die, parts, w.points[0]}[what];
        }

        List<Integer> fitting() {
            List<Integer> fit = new ArrayList<>();
            for (int lie : new TreeSet<>(LIES.keySet())) {
                boolean all = true;
                for (int[] sight : now.sights) {
                    all &= top(lie, sight[0]) == sight[1];
                }
                if (all) {
                    fit.add(lie);
                }
            }
            return fit;
        }

        int lies(int i) {
            List<Integer> fit = fitting();
            return i == -1 ? fit.size() : i >= 0 && i < fit.size() ? fit.get(i) : NONE;
        }

        int ask(int what) {
            if (what < 0 || what > 1) {
                return OUTSIDE;
            }
            List<Integer> fit = fitting();
            if (fit.isEmpty()) {
                return NONE;
            }
            int bestRow = 0;
            int best = 99;
            for (int row = 133; row >= 1; row--) {
                if (isRow(row)) {
                    Map<Integer, Integer> groups = new HashMap<>();
                    for (int lie : fit) {
                        groups.merge(top(lie, row), 1, Integer::sum);
                    }
                    int most = 0;
                    for (int n : groups.values()) {
                        most = Math.max(most, n);
                    }
                    if (most <= best) {
                        best = most;
                        bestRow = row;
                    }
                }
            }
            return what == 0 ? bestRow : best;
        }

        int told(int what) {
            switch (what) {
                case 0:
                    return pad.length();
                case 1:
                    return now.die;
                case 2:
                    return now.game;
                case 3:
                    return now.sights.size();
                default:
                    break;
            }
            int p = Math.floorMod(what, 10);
            if (p > 5 || what < 10 || what >= 40) {
                return OUTSIDE;
            }
            return what < 20 ? number(now.beetle[p]) : what < 30 ? now.points[p] : now.in.contains(p) ? 1 : 0;
        }
    }

    // ---- random runs

    private static final int[] SOME = {0, 100000, 110000, 111622, 111621, 111612, 111522, 110622, 101600, 111622};

    private static void randomRun(int run) {
        Random r = new Random(1000 + run);
        BeetleDrive x = new BeetleDrive();
        Model m = new Model();
        // Each answer that is compared is one call; a step makes nine at most, and the end 42.
        long begun = compared;
        if (run % 30 == 0) {
            lateGames("run " + run + ": ", 97 + r.nextInt(3), x, m);
        }
        while (compared - begun <= CALLS - 42 - 9) {
            String name = "run " + run + " call " + (compared - begun) + ": ";
            int kind = r.nextInt(40);
            if (kind < 22) {
                words(name, r, x, m);
            } else if (kind < 30) {
                reads(name, r, x, m);
            } else {
                others(name, r, x, m);
            }
        }
        for (int what = -1; what < 41; what++) {
            due("run " + run + " at its end told " + what, x.told(what), m.told(what));
        }
    }

    /** No run comes so far by chance: player 0 cries in each game, at four calls a game. */
    private static void lateGames(String name, int games, BeetleDrive x, Model m) {
        for (int i = 0; i < games; i++) {
            due(name + "player", x.player(0, 111622, i), m.now.points[0]);
            m.now.beetle[0] = figures(111622);
            m.now.points[0] = i;
            m.pad = "A!";
            due(name + "say", x.say('A'), 1);
            due(name + "say", x.say('!'), 2);
            due(name + "done", x.done(), m.done());
        }
        // What follows is short, so some are whole from the start on: a cry is what matters here.
        for (int p = 0; p < 6; p += 2) {
            due(name + "player", x.player(p, 111622, p), m.now.points[p]);
            m.now.beetle[p] = figures(111622);
            m.now.points[p] = p;
        }
    }

    private static void words(String name, Random r, BeetleDrive x, Model m) {
        String mostly = r.nextInt(4) == 0 ? "654321.A!B!C#D!E!F#A#" : "665544333333222111666555";
        int sign = r.nextInt(60) == 0 ? 28 + r.nextInt(105) : mostly.charAt(r.nextInt(mostly.length()));
        int[] signs = {sign};
        if (sign >= 'A' && sign <= 'F' && r.nextInt(20) != 0) {
            signs = new int[] {sign, r.nextBoolean() ? '!' : '#'};
        } else if ((sign == '!' || sign == '#') && r.nextInt(20) != 0) {
            signs = new int[] {'A' + r.nextInt(6), sign};
        }
        for (int s : signs) {
            int want;
            if (s < 33 || s > 126) {
                want = OUTSIDE;
            } else if (m.pad.length() == 60) {
                want = FULL;
            } else {
                m.pad += (char) s;
                want = m.pad.length();
            }
            due(name + "say " + s, x.say(s), want);
        }
    }

    private static void reads(String name, Random r, BeetleDrive x, Model m) {
        int what = r.nextInt(6) - 1;
        int p = r.nextInt(8) - 1;
        name += m.pad + " ";
        due(name + "fault", x.fault(), m.fault());
        due(name + "judge " + what, x.judge(what), m.judge(what));
        due(name + "behind " + p + " " + what, x.behind(p, what), m.behind(p, what));
        due(name + "table " + what, x.table(what), m.table(what));
        due(name + "first " + what, x.first(what), m.first(what));
        int t = r.nextInt(44) - 2;
        due(name + "told " + t, x.told(t), m.told(t));
        int seed = r.nextInt(10004) - 2;
        int acts = r.nextInt(103) - 1;
        due(name + "year " + seed + " " + acts, x.year(seed, acts, what), m.year(seed, acts, what));
        int i = r.nextInt(28) - 2;
        due(name + "lies " + i, x.lies(i), m.lies(i));
        due(name + "ask " + what, x.ask(what), m.ask(what));
    }

    private static void others(String name, Random r, BeetleDrive x, Model m) {
        int p = r.nextInt(7) - r.nextInt(2);
        boolean known = p >= 0 && p < 6;
        int kind = r.nextInt(16);
        if (kind < 3) {
            int drawn = r.nextInt(9) == 0 ? r.nextInt(120000) : SOME[r.nextInt(SOME.length)];
            int points = r.nextInt(3) == 0 ? 980 + r.nextInt(22) : r.nextInt(40) - 1;
            int want = !known ? UNKNOWN : !canBe(drawn) || points < 0 || points > 999 ? OUTSIDE : m.now.points[p];
            if (want >= 0) {
                m.now.beetle[p] = figures(drawn);
                m.now.points[p] = points;
            }
            due(name + "player", x.player(p, drawn, points), want);
        } else if (kind < 5) {
            int want = !known ? UNKNOWN : !m.now.in.contains(p) ? STATE : m.now.die;
            if (want >= 0) {
                m.now.die = p;
            }
            due(name + "die", x.die(p), want);
        } else if (kind < 7) {
            due(name + "wipe", x.wipe(), m.pad.length());
            m.pad = "";
        } else if (kind < 10) {
            due(name + "done " + m.pad, x.done(), m.done());
        } else if (kind < 13) {
            sight(name, r, x, m);
        } else if (kind == 13) {
            due(name + "forget", x.forget(), m.now.sights.size());
            m.now.sights.clear();
        } else {
            images(name, r, x, m);
        }
    }

    private static void sight(String name, Random r, BeetleDrive x, Model m) {
        int row = 1;
        for (int n = r.nextInt(8); n > 0; n--) {
            row = row * 10 + r.nextInt(r.nextInt(10) == 0 ? 5 : 4);
        }
        // Mostly what one and the same die would show, so that something is left to be found.
        int v = isRow(row) && r.nextInt(8) != 0 ? top(53, row) : r.nextInt(8);
        int want = !isRow(row) || v < 1 || v > 6 ? OUTSIDE : m.now.sights.size() == 8 ? FULL : m.now.sights.size() + 1;
        if (want > 0) {
            m.now.sights.add(new int[] {row, v});
        }
        due(name + "shown " + row + " " + v, x.shown(row, v), want);
    }

    private static void images(String name, Random r, BeetleDrive x, Model m) {
        int k = r.nextInt(5) - 1;
        k = k == 3 ? 1 : k;
        boolean fine = k == 0 || k == 1;
        if (r.nextBoolean()) {
            if (fine) {
                m.kept[k] = m.now.copy();
            }
            due(name + "image " + k, x.image(k), fine ? 1 : OUTSIDE);
        } else {
            int want = !fine ? OUTSIDE : m.kept[k] == null ? STATE : 1;
            if (want == 1) {
                m.now = m.kept[k].copy();
            }
            due(name + "restore " + k, x.restore(k), want);
        }
    }
}
