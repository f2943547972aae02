/** Beetles by throws: players, a die that goes round, games told as texts, and sums about dice. */
public final class BeetleDrive {
    public static final int UNKNOWN = -1, OUTSIDE = -2, STATE = -3, FULL = -4, NO = -5, NONE = -6;
    public static final long GONE = -1000000000000000000L;

    private static final int FINE = 0;
    private static final int PLAYERS = 6;
    private static final int FACES = 6;
    private static final int MOST_POINTS = 999;
    private static final int LAST_GAME = 99;

    /* The signs of acts, used for those of a year too, so that both are judged and played alike. */
    private static final int LEAST_THROW = '1';
    private static final int MOST_THROW = '6';
    private static final int GO_ON = '.';
    private static final int CRY = '!';
    private static final int IN_OR_OUT = '#';

    private static final int WHOLE_PLAYER = 1;
    private static final int NOT_TO_CRY = 2;
    private static final int LAST_ONE_IN = 3;
    private static final int NO_GAME_MORE = 4;

    private final Table now = new Table();
    private final Pad pad = new Pad();
    private final Match match = new Match();
    private final Sheets sheets = new Sheets();
    private final Sums dice = new Sums();
    private final Sights sights = new Sights();
    private final Finder finder = new Finder();
    private final Turns turns = new Turns();
    private final Image imageZero = new Image();
    private final Image imageOne = new Image();

    public BeetleDrive() {
    }

    // ---- 1 players, the die

    public int player(int player, int drawn, int points) {
        if (!isPlayer(player)) {
            return UNKNOWN;
        }
        if (!Beetle.canBe(drawn) || !isWithin(points, 0, MOST_POINTS)) {
            return OUTSIDE;
        }
        int had = now.points[player];
        now.drawn[player] = drawn;
        now.points[player] = points;
        return had;
    }

    public int die(int player) {
        if (!isPlayer(player)) {
            return UNKNOWN;
        }
        if (!now.isIn(player)) {
            return STATE;
        }
        int had = now.holder;
        now.holder = player;
        return had;
    }

    public int say(int sign) {
        if (!isWithin(sign, Pad.LEAST_SIGN, Pad.MOST_SIGN)) {
            return OUTSIDE;
        }
        return pad.add(sign) ? pad.size : FULL;
    }

    public int wipe() {
        return pad.clear();
    }

    public int fault() {
        return pad.firstFault();
    }

    // ---- 2 games

    public int judge(int what) {
        if (!isWithin(what, 0, 2)) {
            return OUTSIDE;
        }
        int refusal = match.playText(pad, now);
        if (refusal == NO) {
            return NO;
        }
        if (what == 2) {
            return refusal == FINE ? match.vain : refusal;
        }
        if (refusal == FINE) {
            return NONE;
        }
        return what == 0 ? match.acts : match.why;
    }

    public int behind(int player, int what) {
        if (!isPlayer(player)) {
            return UNKNOWN;
        }
        if (!isWithin(what, 0, 3)) {
            return OUTSIDE;
        }
        int refusal = match.playText(pad, now);
        if (refusal != FINE) {
            return refusal;
        }
        switch (what) {
            case 0:
                return Beetle.parts(match.table.drawn[player]);
            case 1:
                return match.table.points[player];
            case 2:
                return match.table.isIn(player) ? 1 : 0;
            default:
                return match.table.drawn[player];
        }
    }

    public int table(int what) {
        if (!isWithin(what, 0, 3)) {
            return OUTSIDE;
        }
        int refusal = match.playText(pad, now);
        if (refusal != FINE) {
            return refusal;
        }
        switch (what) {
            case 0:
                return match.table.holder;
            case 1:
                return match.table.game;
            case 2:
                return match.table.wholeOnes();
            default:
                return match.table.leader();
        }
    }

    public int first(int what) {
        if (!isWithin(what, 0, 1)) {
            return OUTSIDE;
        }
        int refusal = match.playText(pad, now);
        if (refusal != FINE) {
            return refusal;
        }
        return what == 0 ? match.wholeAct : match.wholeWho;
    }

    public int done() {
        int refusal = match.playText(pad, now);
        if (refusal != FINE) {
            return refusal;
        }
        now.copyFrom(match.table);
        pad.clear();
        return match.acts;
    }

    // ---- 3 orders, throws, sums

    public int orders(int drawn, int what) {
        int sheet = sheets.find(drawn);
        if (sheet == NONE || !isWithin(what, 0, 1)) {
            return OUTSIDE;
        }
        return what == 0 ? sheets.orders[sheet] : sheets.leastThrow(sheet);
    }

    public long whole(int drawn, int n, int part) {
        int sheet = sheets.find(drawn);
        if (sheet == NONE || !isWithin(n, 0, 24) || !isWithin(part, 0, 1)) {
            return GONE + OUTSIDE;
        }
        return lowestTerms(sheets.waysToWhole(sheet, n), n, part);
    }

    public long sums(int k, int s) {
        if (!isWithin(k, 1, 12) || !isWithin(s, 0, Sums.MOST)) {
            return OUTSIDE;
        }
        return dice.ways(k, s);
    }

    // ---- 4 rolls, turns

    public int roll(int lies, int row) {
        if (!Cube.canLie(lies) || !Cube.isRow(row)) {
            return OUTSIDE;
        }
        return Cube.topAfter(lies, row);
    }

    public int shown(int row, int v) {
        if (!Cube.isRow(row) || !isWithin(v, 1, FACES)) {
            return OUTSIDE;
        }
        return sights.add(row, v) ? sights.size : FULL;
    }

    public int forget() {
        return sights.clear();
    }

    public int lies(int i) {
        finder.search(sights);
        if (i == -1) {
            return finder.size;
        }
        return isWithin(i, 0, finder.size - 1) ? finder.found[i] : NONE;
    }

    public int ask(int what) {
        if (!isWithin(what, 0, 1)) {
            return OUTSIDE;
        }
        finder.search(sights);
        if (finder.size == 0) {
            return NONE;
        }
        int row = finder.bestRow();
        return what == 0 ? row : finder.mostLeft(row);
    }

    public int turn(int n, int f, int what) {
        if (!isWithin(n, 0, Turns.MOST) || !isWithin(f, 1, FACES) || !isWithin(what, 0, 1)) {
            return OUTSIDE;
        }
        int to = turns.winningTurn(n, f);
        if (what == 1) {
            return to;
        }
        return to == NONE ? 0 : 1;
    }

    public int year(int seed, int m, int what) {
        if (!isWithin(seed, 0, 9999) || !isWithin(m, 1, 99) || !isWithin(what, 0, 2)) {
            return OUTSIDE;
        }
        match.playYear(seed, m, now);
        switch (what) {
            case 0:
                return match.table.holder;
            case 1:
                return match.table.allParts();
            default:
                return match.table.points[0];
        }
    }

    public int image(int k) {
        if (!isWithin(k, 0, 1)) {
            return OUTSIDE;
        }
        imageAt(k).keep(now, sights);
        return 1;
    }

    public int restore(int k) {
        if (!isWithin(k, 0, 1)) {
            return OUTSIDE;
        }
        Image kept = imageAt(k);
        if (!kept.isKept) {
            return STATE;
        }
        now.copyFrom(kept.table);
        sights.copyFrom(kept.sights);
        return 1;
    }

    public int told(int what) {
        if (what < 0) {
            return OUTSIDE;
        }
        return what < 10 ? toldOfAll(what) : toldOfPlayer(what / 10, what % 10);
    }

    private int toldOfAll(int what) {
        switch (what) {
            case 0:
                return pad.size;
            case 1:
                return now.holder;
            case 2:
                return now.game;
            case 3:
                return sights.size;
            default:
                return OUTSIDE;
        }
    }

    private int toldOfPlayer(int tens, int player) {
        if (!isPlayer(player)) {
            return OUTSIDE;
        }
        switch (tens) {
            case 1:
                return now.drawn[player];
            case 2:
                return now.points[player];
            case 3:
                return now.isIn(player) ? 1 : 0;
            default:
                return OUTSIDE;
        }
    }

    private Image imageAt(int k) {
        return k == 0 ? imageZero : imageOne;
    }

    /* The lower number is a power of six, so twos and threes are all that can be shortened. */
    private static long lowestTerms(long ways, int n, int part) {
        long upper = ways;
        long lower = 1;
        for (int i = 0; i < n; i++) {
            lower *= FACES;
        }
        for (int i = 0; i < n && upper % 2 == 0; i++) {
            upper /= 2;
            lower /= 2;
        }
        for (int i = 0; i < n && upper % 3 == 0; i++) {
            upper /= 3;
            lower /= 3;
        }
        return part == 0 ? upper : lower;
    }

    private static boolean isWithin(int number, int least, int most) {
        return number >= least && number <= most;
    }

    private static boolean isPlayer(int player) {
        return isWithin(player, 0, PLAYERS - 1);
    }

    /** What is drawn, as the six figures of the document: a throw's part is one figure. */
    private static final class Beetle {
        private static final int WHOLE = 111622;

        /* All by the number thrown; at 0 stands what does no harm. */
        private static final int[] UNIT = {1, 1, 10, 100, 1000, 10000, 100000};
        private static final int[] MOST = {0, 2, 2, 6, 1, 1, 1};
        private static final int[] HANGS_ON = {0, 5, 5, 6, 6, 6, 0};

        private Beetle() {
        }

        static boolean canBe(int drawn) {
            if (!isWithin(drawn, 0, WHOLE)) {
                return false;
            }
            for (int face = 1; face <= FACES; face++) {
                int had = count(drawn, face);
                if (had > MOST[face] || (had > 0 && !hasWhatItNeeds(drawn, face))) {
                    return false;
                }
            }
            return true;
        }

        /* The same as before, if no part can be drawn by it. */
        static int draw(int drawn, int face) {
            if (!isWithin(face, 1, FACES) || count(drawn, face) >= MOST[face]) {
                return drawn;
            }
            return hasWhatItNeeds(drawn, face) ? drawn + UNIT[face] : drawn;
        }

        static int parts(int drawn) {
            int parts = 0;
            for (int face = 1; face <= FACES; face++) {
                parts += count(drawn, face);
            }
            return parts;
        }

        private static int count(int drawn, int face) {
            return drawn / UNIT[face] % 10;
        }

        private static boolean hasWhatItNeeds(int drawn, int face) {
            int needed = HANGS_ON[face];
            return needed == 0 || count(drawn, needed) > 0;
        }
    }

    /** Who has what, who is in, whose turn it is. */
    private static final class Table {
        private final int[] drawn = new int[PLAYERS];
        private final int[] points = new int[PLAYERS];
        private int inBits = (1 << PLAYERS) - 1;
        private int holder;
        private int game;

        void copyFrom(Table other) {
            for (int who = 0; who < PLAYERS; who++) {
                drawn[who] = other.drawn[who];
                points[who] = other.points[who];
            }
            inBits = other.inBits;
            holder = other.holder;
            game = other.game;
        }

        boolean isIn(int who) {
            return (inBits & (1 << who)) != 0;
        }

        boolean isWhole(int who) {
            return drawn[who] == Beetle.WHOLE;
        }

        /* FINE, or the least reason for which the act can not be. */
        int whyNot(int mark, int who) {
            if (isThrow(mark)) {
                return isWhole(holder) ? WHOLE_PLAYER : FINE;
            }
            if (mark == IN_OR_OUT) {
                return inBits == (1 << who) ? LAST_ONE_IN : FINE;
            }
            if (mark != CRY) {
                return FINE;
            }
            if (!isWhole(who) || !isIn(who)) {
                return NOT_TO_CRY;
            }
            return game >= LAST_GAME ? NO_GAME_MORE : FINE;
        }

        /* Whether a part was drawn by it. */
        boolean drawBy(int face) {
            int had = drawn[holder];
            int has = Beetle.draw(had, face);
            if (has == had) {
                passOn();
                return false;
            }
            drawn[holder] = has;
            return true;
        }

        void countUp(int crier) {
            for (int who = 0; who < PLAYERS; who++) {
                points[who] = Math.min(MOST_POINTS, worth(who));
                drawn[who] = 0;
            }
            holder = crier;
            game++;
        }

        void goOrCome(int who) {
            inBits ^= 1 << who;
            if (who == holder) {
                passOn();
            }
        }

        /* The last step is the holder's own place: the die comes back to one who is alone. */
        void passOn() {
            for (int step = 1; step <= PLAYERS; step++) {
                int next = (holder + step) % PLAYERS;
                if (isIn(next)) {
                    holder = next;
                    return;
                }
            }
        }

        int wholeOnes() {
            int bits = 0;
            for (int who = 0; who < PLAYERS; who++) {
                if (isWhole(who)) {
                    bits |= 1 << who;
                }
            }
            return bits;
        }

        int leader() {
            int best = 0;
            for (int who = 1; who < PLAYERS; who++) {
                if (worth(who) > worth(best)) {
                    best = who;
                }
            }
            return best;
        }

        int allParts() {
            int parts = 0;
            for (int who = 0; who < PLAYERS; who++) {
                parts += Beetle.parts(drawn[who]);
            }
            return parts;
        }

        static boolean isThrow(int mark) {
            return isWithin(mark, LEAST_THROW, MOST_THROW);
        }

        private int worth(int who) {
            return points[who] + Beetle.parts(drawn[who]);
        }
    }

    /** The signs that were said. */
    private static final class Pad {
        private static final int ROOM = 60;
        private static final int LEAST_SIGN = 33;
        private static final int MOST_SIGN = 126;

        private final int[] signs = new int[ROOM];
        private int size;

        boolean add(int sign) {
            if (size >= ROOM) {
                return false;
            }
            signs[size] = sign;
            size++;
            return true;
        }

        int clear() {
            int had = size;
            size = 0;
            return had;
        }

        int firstFault() {
            boolean named = false;
            for (int i = 0; i < size; i++) {
                if (!canStand(signs[i], named)) {
                    return i;
                }
                named = isLetter(signs[i]);
            }
            return named ? size : NONE;
        }

        static boolean isLetter(int sign) {
            return isWithin(sign, 'A', 'F');
        }

        private static boolean canStand(int sign, boolean named) {
            if (named) {
                return sign == CRY || sign == IN_OR_OUT;
            }
            return sign == GO_ON || Table.isThrow(sign) || isLetter(sign);
        }
    }

    /** Acts played on a table of its own, so that nothing is done in fact. */
    private static final class Match {
        private final Table table = new Table();
        private int acts;
        private int why;
        private int vain;
        private int wholeAct;
        private int wholeWho;

        /* FINE, or the refusal; behind an act that can not be nothing is played, so acts is its place then. */
        int playText(Pad pad, Table from) {
            begin(from);
            if (pad.firstFault() != NONE) {
                return NO;
            }
            int who = 0;
            for (int i = 0; i < pad.size && why == FINE; i++) {
                int sign = pad.signs[i];
                if (Pad.isLetter(sign)) {
                    who = sign - 'A';
                } else {
                    play(sign, who);
                }
            }
            return why == FINE ? FINE : STATE;
        }

        void playYear(int seed, int m, Table from) {
            begin(from);
            int x = seed;
            for (int i = 0; i < m; i++) {
                x = (75 * x + 74) % 65537;
                int y = x / 8;
                play(markOfYear(x % 8, y), y % PLAYERS);
            }
        }

        private static int markOfYear(int kind, int y) {
            if (kind <= 5) {
                return LEAST_THROW + y % FACES;
            }
            if (kind == 7) {
                return CRY;
            }
            return y / 6 % 4 == 0 ? IN_OR_OUT : GO_ON;
        }

        private void begin(Table from) {
            table.copyFrom(from);
            acts = 0;
            why = FINE;
            vain = 0;
            wholeAct = NONE;
            wholeWho = NONE;
        }

        private void play(int mark, int who) {
            why = table.whyNot(mark, who);
            if (why != FINE) {
                return;
            }
            if (mark == CRY) {
                table.countUp(who);
            } else if (mark == IN_OR_OUT) {
                table.goOrCome(who);
            } else if (mark == GO_ON) {
                table.passOn();
            } else {
                noteThrow(table.drawBy(mark - LEAST_THROW + 1));
            }
            acts++;
        }

        private void noteThrow(boolean drew) {
            if (!drew) {
                vain++;
            } else if (wholeAct == NONE && table.isWhole(table.holder)) {
                wholeAct = acts;
                wholeWho = table.holder;
            }
        }
    }

    /** All beetles that can be, rising, so that a throw never leads to an earlier one. */
    private static final class Sheets {
        private static final int COUNT = 141;
        private static final int FIGURES = 504;

        private final int[] drawn = new int[COUNT];
        private final int[] next = new int[COUNT * FACES];
        private final int[] orders = new int[COUNT];
        private final long[] ways = new long[COUNT];

        Sheets() {
            listBeetles();
            for (int sheet = COUNT - 1; sheet >= 0; sheet--) {
                linkAndCount(sheet);
            }
        }

        int find(int wanted) {
            int low = 0;
            int high = COUNT - 1;
            for (int step = 0; step < COUNT && low < high; step++) {
                int middle = (low + high) / 2;
                if (drawn[middle] < wanted) {
                    low = middle + 1;
                } else {
                    high = middle;
                }
            }
            return drawn[low] == wanted ? low : NONE;
        }

        /* Whatever is drawn first, the rest can follow: so the least order begins with the least throw. */
        int leastThrow(int sheet) {
            for (int face = 1; face <= FACES; face++) {
                if (after(sheet, face) != sheet) {
                    return face;
                }
            }
            return NONE;
        }

        /* From the last sheet down: what a throw leads to has had its own throw already. */
        long waysToWhole(int sheet, int n) {
            for (int i = 0; i < COUNT; i++) {
                ways[i] = i == sheet ? 1 : 0;
            }
            for (int thrown = 0; thrown < n; thrown++) {
                for (int i = COUNT - 1; i >= sheet; i--) {
                    spread(i);
                }
            }
            return ways[COUNT - 1];
        }

        private void spread(int sheet) {
            long all = ways[sheet];
            if (all == 0) {
                return;
            }
            ways[sheet] = 0;
            for (int face = 1; face <= FACES; face++) {
                ways[after(sheet, face)] += all;
            }
        }

        private int after(int sheet, int face) {
            return next[sheet * FACES + face - 1];
        }

        private void listBeetles() {
            int size = 0;
            for (int i = 0; i < FIGURES && size < COUNT; i++) {
                int figures = figuresAt(i);
                if (Beetle.canBe(figures)) {
                    drawn[size] = figures;
                    size++;
                }
            }
        }

        private static int figuresAt(int i) {
            int ends = i / 9 % 7 * 100 + i / 3 % 3 * 10 + i % 3;
            return i / 252 * 100000 + i / 126 % 2 * 10000 + i / 63 % 2 * 1000 + ends;
        }

        private void linkAndCount(int sheet) {
            int count = 0;
            for (int face = 1; face <= FACES; face++) {
                int later = find(Beetle.draw(drawn[sheet], face));
                int to = later == NONE ? sheet : later;
                next[sheet * FACES + face - 1] = to;
                count += to == sheet ? 0 : orders[to];
            }
            orders[sheet] = drawn[sheet] == Beetle.WHOLE ? 1 : count;
        }
    }

    /** In how many ways dice come to a sum. */
    private static final class Sums {
        private static final int MOST = 99;

        private final long[] row = new long[MOST + 1];

        long ways(int k, int s) {
            for (int sum = 0; sum <= s; sum++) {
                row[sum] = sum == 0 ? 1 : 0;
            }
            for (int thrown = 0; thrown < k; thrown++) {
                addDie(s);
            }
            return row[s];
        }

        /* Downwards, so that the lesser sums are still those without this die. */
        private void addDie(int most) {
            for (int sum = most; sum >= 0; sum--) {
                long ways = 0;
                for (int face = 1; face <= FACES && face <= sum; face++) {
                    ways += row[sum - face];
                }
                row[sum] = ways;
            }
        }
    }

    /** How a die lies (10 times the top, and the front) and is rolled. */
    private static final class Cube {
        private static final int MOST_ROW = 1333333;
        private static final int MOST_WAYS = 6;
        private static final int FIRST_UNIT = 100000;

        private Cube() {
        }

        static boolean canLie(int lie) {
            int top = lie / 10;
            int front = lie % 10;
            return isWithin(top, 1, FACES) && isWithin(front, 1, FACES) && front != top && front != 7 - top;
        }

        static boolean isRow(int row) {
            if (!isWithin(row, 1, MOST_ROW)) {
                return false;
            }
            int rest = row;
            for (int i = 0; i < MOST_WAYS && rest >= 10; i++) {
                if (rest % 10 > 3) {
                    return false;
                }
                rest /= 10;
            }
            return rest == 1;
        }

        /* The figures from the first on; the 1 ahead, and what would stand before it, are no ways. */
        static int topAfter(int lie, int row) {
            int now = lie;
            int unit = FIRST_UNIT;
            for (int i = 0; i < MOST_WAYS && unit > 0; i++) {
                if (row / unit >= 10) {
                    now = rolled(now, row / unit % 10);
                }
                unit /= 10;
            }
            return now / 10;
        }

        private static int rolled(int lie, int way) {
            int top = lie / 10;
            int front = lie % 10;
            switch (way) {
                case 0:
                    return (7 - front) * 10 + top;
                case 1:
                    return (7 - rightOf(top, front)) * 10 + front;
                case 2:
                    return front * 10 + 7 - top;
                default:
                    return rightOf(top, front) * 10 + front;
            }
        }

        /* Three axes, 1, 2, 3 round: from one to the next the third follows; each far end turns it about. */
        private static int rightOf(int top, int front) {
            int topAxis = Math.min(top, 7 - top);
            int frontAxis = Math.min(front, 7 - front);
            int third = 6 - topAxis - frontAxis;
            boolean follows = (frontAxis - topAxis + 3) % 3 == 1;
            boolean sameEnds = (top > 3) == (front > 3);
            return follows == sameEnds ? third : 7 - third;
        }
    }

    /** What was seen on top, and by which rows. */
    private static final class Sights {
        private static final int ROOM = 8;

        private final int[] rows = new int[ROOM];
        private final int[] tops = new int[ROOM];
        private int size;

        void copyFrom(Sights other) {
            for (int i = 0; i < ROOM; i++) {
                rows[i] = other.rows[i];
                tops[i] = other.tops[i];
            }
            size = other.size;
        }

        boolean add(int row, int top) {
            if (size >= ROOM) {
                return false;
            }
            rows[size] = row;
            tops[size] = top;
            size++;
            return true;
        }

        int clear() {
            int had = size;
            size = 0;
            return had;
        }

        boolean fit(int lie) {
            for (int i = 0; i < size; i++) {
                if (Cube.topAfter(lie, rows[i]) != tops[i]) {
                    return false;
                }
            }
            return true;
        }
    }

    /** All that fits the sights, and how to look next. */
    private static final class Finder {
        private static final int LIES = 24;
        private static final int LEAST_LIE = 12;
        private static final int MOST_LIE = 65;
        private static final int LAST_ROW_TO_ASK = 133;

        private final int[] found = new int[LIES];
        private final int[] tally = new int[FACES + 1];
        private int size;

        void search(Sights sights) {
            size = 0;
            for (int lie = LEAST_LIE; lie <= MOST_LIE && size < LIES; lie++) {
                if (Cube.canLie(lie) && sights.fit(lie)) {
                    found[size] = lie;
                    size++;
                }
            }
        }

        int bestRow() {
            int best = 1;
            int least = mostLeft(best);
            for (int row = 2; row <= LAST_ROW_TO_ASK; row++) {
                if (!Cube.isRow(row)) {
                    continue;
                }
                int left = mostLeft(row);
                if (left < least) {
                    best = row;
                    least = left;
                }
            }
            return best;
        }

        int mostLeft(int row) {
            for (int face = 0; face <= FACES; face++) {
                tally[face] = 0;
            }
            int most = 0;
            for (int i = 0; i < size; i++) {
                int top = Cube.topAfter(found[i], row);
                if (isWithin(top, 1, FACES)) {
                    tally[top]++;
                    most = Math.max(most, tally[top]);
                }
            }
            return most;
        }
    }

    /** By which numbers on top who begins can win, as bits, for all that may be left of the sum. */
    private static final class Turns {
        private static final int MOST = 99;

        private final int[] wins = new int[MOST + 1];

        Turns() {
            for (int n = 0; n <= MOST; n++) {
                int bits = 0;
                for (int face = 1; face <= FACES; face++) {
                    if (winningTurn(n, face) != NONE) {
                        bits |= 1 << face;
                    }
                }
                wins[n] = bits;
            }
        }

        /* The least number to turn to that leaves the other one lost. */
        int winningTurn(int n, int face) {
            for (int to = 1; to <= FACES && to <= n; to++) {
                boolean canTurn = to != face && to != 7 - face;
                if (canTurn && (wins[n - to] & (1 << to)) == 0) {
                    return to;
                }
            }
            return NONE;
        }
    }

    /** All but the pad, as it was. */
    private static final class Image {
        private final Table table = new Table();
        private final Sights sights = new Sights();
        private boolean isKept;

        void keep(Table now, Sights seen) {
            table.copyFrom(now);
            sights.copyFrom(seen);
            isKept = true;
        }
    }
}
