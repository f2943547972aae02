/** Each promise of the document: ordinary inputs, the edges it names, wrong inputs. */
public final class PromisesTest {
    private static final int UNKNOWN = -1, OUTSIDE = -2, STATE = -3, FULL = -4, NO = -5, NONE = -6;
    private static final int WHOLE = 111622;
    private static int wrong = 0;

    private static void due(String what, long got, long want) {
        if (got != want) {
            wrong++;
            System.out.println(what + " answered " + got + ", due is " + want);
        }
    }

    /** Says a text sign by sign onto an empty pad. */
    private static void text(BeetleDrive x, String signs) {
        x.wipe();
        for (int i = 0; i < signs.length(); i++) {
            due("say of " + signs + " at " + i, x.say(signs.charAt(i)), i + 1);
        }
    }

    private static void doText(BeetleDrive x, String signs, int acts) {
        text(x, signs);
        due("done of " + signs, x.done(), acts);
    }

    public static void main(String[] args) {
        newObject();
        player();
        die();
        sayAndWipe();
        fault();
        judgeReasons();
        judgeOrder();
        judgeCount();
        lastGame();
        behind();
        table();
        first();
        done();
        orders();
        whole();
        sums();
        roll();
        shownAndForget();
        lies();
        ask();
        turn();
        year();
        yearTouchesNothing();
        images();
        told();
        extremes();
        System.out.println(wrong == 0 ? "all promises hold" : wrong + " answers are not as due");
        if (wrong != 0) {
            System.exit(1);
        }
    }

    private static void newObject() {
        BeetleDrive x = new BeetleDrive();
        for (int what = 0; what <= 3; what++) {
            due("1 told " + what, x.told(what), 0);
        }
        for (int p = 0; p < 6; p++) {
            due("1 drawn " + p, x.told(10 + p), 0);
            due("1 points " + p, x.told(20 + p), 0);
            due("1 in " + p, x.told(30 + p), 1);
        }
        due("1 lies", x.lies(-1), 24);
        due("1 restore 0", x.restore(0), STATE);
        due("1 restore 1", x.restore(1), STATE);
    }

    private static void player() {
        BeetleDrive x = new BeetleDrive();
        due("2 first", x.player(3, 100000, 12), 0);
        due("2 had", x.player(3, WHOLE, 999), 12);
        due("2 drawn", x.told(13), WHOLE);
        due("2 points", x.told(23), 999);
        due("2 unknown -1", x.player(-1, 0, 0), UNKNOWN);
        due("2 unknown 6", x.player(6, 0, 0), UNKNOWN);
        due("2 unknown ahead of outside", x.player(6, -1, -1), UNKNOWN);
        int[] not = {-1, 1, 10, 100, 1000, 10000, 100001, 100010, 200000, 120000, 112000, 110700, 110030, 110003,
            111623, 1000000, Integer.MIN_VALUE, Integer.MAX_VALUE, 101601, 100020};
        for (int drawn : not) {
            due("2 can not be " + drawn, x.player(0, drawn, 0), OUTSIDE);
        }
        int[] can = {0, 100000, 110000, 101000, 100600, 101600, 110022, 110020, 110002, 111600, WHOLE};
        for (int drawn : can) {
            due("2 can be " + drawn, x.player(0, drawn, 0), 0);
            due("2 is drawn " + drawn, x.told(10), drawn);
        }
        due("2 points -1", x.player(3, 0, -1), OUTSIDE);
        due("2 points 1000", x.player(3, 0, 1000), OUTSIDE);
        due("2 a refusal changes nothing", x.told(13), WHOLE);
        due("2 a refusal changes no points", x.told(23), 999);
        doText(x, "F#", 1);
        due("2 of one who is out", x.player(5, 110000, 4), 0);
        due("2 who is out stays so", x.told(35), 0);
    }

    private static void die() {
        BeetleDrive x = new BeetleDrive();
        due("3 had", x.die(4), 0);
        due("3 had 4", x.die(4), 4);
        due("3 told", x.told(1), 4);
        due("3 unknown", x.die(6), UNKNOWN);
        due("3 unknown -1", x.die(-1), UNKNOWN);
        doText(x, "C#", 1);
        due("3 out", x.die(2), STATE);
        due("3 nothing changed", x.told(1), 4);
        doText(x, "C#", 1);
        due("3 in again", x.die(2), 4);
    }

    private static void sayAndWipe() {
        BeetleDrive x = new BeetleDrive();
        due("4 32", x.say(32), OUTSIDE);
        due("4 127", x.say(127), OUTSIDE);
        due("4 negative", x.say(-5), OUTSIDE);
        due("4 33", x.say(33), 1);
        due("4 126", x.say(126), 2);
        due("5 two", x.wipe(), 2);
        due("5 none", x.wipe(), 0);
        for (int i = 1; i <= 60; i++) {
            due("4 sign " + i, x.say('.'), i);
        }
        due("4 full", x.say('.'), FULL);
        due("4 outside ahead of full", x.say(32), OUTSIDE);
        due("4 told", x.told(0), 60);
        due("4 sixty acts", x.table(0), 0);
        due("5 sixty", x.wipe(), 60);
        due("5 told", x.told(0), 0);
        due("4 room again", x.say('!'), 1);
    }

    private static void fault() {
        String[] good = {"", "123456", ".", "A!", "F#", "6A#.B!1"};
        String[] bad = {"!", "#", "0", "7", "G!", "a!", "@", "A", "6A", "A!B", "AA", "A.", "A6", "A!!", "6#", "..G",
            "A~", "1,"};
        int[] place = {0, 0, 0, 0, 0, 0, 0, 1, 2, 3, 1, 1, 1, 2, 1, 2, 1, 1};
        BeetleDrive x = new BeetleDrive();
        for (String signs : good) {
            text(x, signs);
            due("6 " + signs, x.fault(), NONE);
        }
        for (int i = 0; i < bad.length; i++) {
            text(x, bad[i]);
            due("6 " + bad[i], x.fault(), place[i]);
            due("7 no " + bad[i], x.judge(0), NO);
            due("7 no, why " + bad[i], x.judge(1), NO);
            due("7 no, count " + bad[i], x.judge(2), NO);
            due("8 no " + bad[i], x.behind(0, 0), NO);
            due("9 no " + bad[i], x.table(0), NO);
            due("10 no " + bad[i], x.first(0), NO);
            due("11 no " + bad[i], x.done(), NO);
            due("11 the pad stays " + bad[i], x.told(0), bad[i].length());
        }
    }

    private static void judged(BeetleDrive x, String signs, int act, int why) {
        text(x, signs);
        due("7 act of " + signs, x.judge(0), act);
        due("7 why of " + signs, x.judge(1), why);
        if (act != NONE) {
            due("7 state of " + signs, x.judge(2), STATE);
            due("8 state of " + signs, x.behind(0, 0), STATE);
            due("9 state of " + signs, x.table(0), STATE);
            due("10 state of " + signs, x.first(0), STATE);
            due("11 state of " + signs, x.done(), STATE);
            due("11 nothing is done by " + signs, x.told(0), signs.length());
        }
    }

    private static void judgeReasons() {
        BeetleDrive x = new BeetleDrive();
        judged(x, "", NONE, NONE);
        judged(x, "123456.A#A#", NONE, NONE);
        judged(x, "A!", 0, 2);
        judged(x, ".A#.A!", 3, 2);
        x.player(0, WHOLE, 0);
        judged(x, "6", 0, 1);
        judged(x, ".6.....1", 7, 1);
        judged(x, ".", NONE, NONE);
        judged(x, "A!", NONE, NONE);
        judged(x, "A!A!", 1, 2);
        judged(x, "A#A!", 1, 2);
        judged(x, "A#A#A!", NONE, NONE);
        judged(x, ".A!", NONE, NONE);
        judged(x, "B!", 0, 2);
        judged(x, "F#E#D#C#B#A#", 5, 3);
        judged(x, "F#E#D#C#B#A!A#", 6, 3);
        judged(x, "F#E#D#C#B#B#A#", NONE, NONE);
        text(x, "");
        due("7 outside", x.judge(3), OUTSIDE);
        due("7 outside -1", x.judge(-1), OUTSIDE);
    }

    /** A fault is told ahead of an act that can not be; a wrong number ahead of both. */
    private static void judgeOrder() {
        BeetleDrive x = new BeetleDrive();
        text(x, "A!!");
        due("7 fault behind a bad act", x.judge(0), NO);
        due("7 outside ahead of no", x.judge(3), OUTSIDE);
        due("8 unknown ahead of outside", x.behind(6, 4), UNKNOWN);
        due("8 outside ahead of no", x.behind(0, 4), OUTSIDE);
        due("9 outside ahead of no", x.table(4), OUTSIDE);
        due("10 outside ahead of no", x.first(2), OUTSIDE);
        text(x, "A!");
        due("8 unknown ahead of state", x.behind(-1, 0), UNKNOWN);
        due("8 outside ahead of state", x.behind(0, -1), OUTSIDE);
        due("9 outside ahead of state", x.table(-1), OUTSIDE);
        due("10 outside ahead of state", x.first(-1), OUTSIDE);
    }

    private static void judgeCount() {
        BeetleDrive x = new BeetleDrive();
        text(x, "12345");
        due("7 five in vain", x.judge(2), 5);
        text(x, "6.6.66");
        due("7 passing on is no throw", x.judge(2), 1);
        text(x, "65412233333366");
        due("7 twelve parts, one in vain, another's body", x.judge(2), 1);
    }

    private static void lastGame() {
        BeetleDrive x = new BeetleDrive();
        for (int game = 1; game <= 99; game++) {
            x.player(0, WHOLE, 0);
            x.say('A');
            x.say('!');
            due("7 game " + game, x.done(), 1);
        }
        due("7 game told", x.told(2), 99);
        x.player(0, WHOLE, 0);
        judged(x, "A!", 0, 4);
        judged(x, "A#A!", 1, 2);
        judged(x, "B!", 0, 2);
        judged(x, "1", 0, 1);
        judged(x, "B#C#D#E#F#A#", 5, 3);
    }

    private static void behind() {
        BeetleDrive x = new BeetleDrive();
        text(x, "65433..4");
        due("8 parts", x.behind(0, 0), 5);
        due("8 points", x.behind(0, 1), 0);
        due("8 in", x.behind(0, 2), 1);
        due("8 drawn", x.behind(0, 3), 111200);
        due("8 in fact nothing", x.told(10), 0);
        x.player(1, WHOLE, 990);
        x.player(4, 110311, 5);
        text(x, "E#B!");
        due("8 points at most", x.behind(1, 1), 999);
        due("8 points of one who is out", x.behind(4, 1), 12);
        due("8 out", x.behind(4, 2), 0);
        due("8 gone", x.behind(4, 3), 0);
        due("8 gone parts", x.behind(1, 0), 0);
        due("8 unknown", x.behind(6, 0), UNKNOWN);
        due("8 unknown -1", x.behind(-1, 0), UNKNOWN);
        due("8 outside", x.behind(5, 4), OUTSIDE);
        due("8 outside -1", x.behind(5, -1), OUTSIDE);
    }

    private static void table() {
        BeetleDrive x = new BeetleDrive();
        x.player(1, 110000, 20);
        x.player(2, 100000, 21);
        x.player(3, WHOLE, 0);
        x.player(5, WHOLE, 9);
        text(x, "");
        due("9 die", x.table(0), 0);
        due("9 game", x.table(1), 0);
        due("9 whole ones", x.table(2), 8 + 32);
        due("9 most, of as many the least", x.table(3), 1);
        text(x, "F#");
        due("9 who is out is whole too", x.table(2), 8 + 32);
        text(x, "..6.....");
        due("9 a throw that draws nothing passes on", x.table(0), 2);
        text(x, "..3.");
        due("9 a throw that draws keeps the die", x.table(0), 3);
        due("9 most by a part drawn", x.table(3), 2);
        text(x, "D!");
        due("9 the die is with who cried", x.table(0), 3);
        due("9 a game more", x.table(1), 1);
        due("9 none is whole", x.table(2), 0);
        text(x, "B#C#A#");
        due("9 past two who are out", x.table(0), 3);
        text(x, "F#.....");
        due("9 from 4 round to 0", x.table(0), 0);
        text(x, "B#C#D#E#F#6.1");
        due("9 alone", x.table(0), 0);
        x.player(5, 0, 500);
        text(x, "F#");
        due("9 most may be out", x.table(3), 5);
        due("9 outside", x.table(4), OUTSIDE);
        due("9 outside -1", x.table(-1), OUTSIDE);
    }

    private static void first() {
        BeetleDrive x = new BeetleDrive();
        due("10 none", x.first(0), NONE);
        due("10 none, who", x.first(1), NONE);
        x.player(0, WHOLE, 0);
        text(x, "A!");
        due("10 whole before is none", x.first(0), NONE);
        x.player(1, 111621, 0);
        x.player(2, 111522, 0);
        text(x, ".31");
        due("10 a throw in vain is none", x.first(0), NONE);
        text(x, "..A#3A#C!");
        due("10 third act", x.first(0), 3);
        due("10 who", x.first(1), 2);
        text(x, ".1.3");
        due("10 the first of two", x.first(0), 1);
        due("10 who of two", x.first(1), 1);
        due("10 outside", x.first(2), OUTSIDE);
        due("10 outside -1", x.first(-1), OUTSIDE);
    }

    private static void done() {
        BeetleDrive x = new BeetleDrive();
        due("11 nothing", x.done(), 0);
        doText(x, "65.66C#.", 7);
        due("11 drawn 0", x.told(10), 110000);
        due("11 drawn 1", x.told(11), 100000);
        due("11 out", x.told(32), 0);
        due("11 die", x.told(1), 4);
        due("11 the pad is empty", x.told(0), 0);
        x.player(4, WHOLE, 7);
        doText(x, "E!", 1);
        due("11 game", x.told(2), 1);
        due("11 points", x.told(24), 20);
        due("11 points of all", x.told(20), 2);
        due("11 beetles are gone", x.told(14), 0);
    }

    private static void orders() {
        BeetleDrive x = new BeetleDrive();
        due("12 nothing", x.orders(0, 0), 33264);
        due("12 body first", x.orders(0, 1), 6);
        due("12 legs first", x.orders(100500, 1), 3);
        due("12 tail first", x.orders(100600, 1), 4);
        due("12 head last to come first", x.orders(101600, 1), 5);
        due("12 head, then two and two", x.orders(101600, 0), 6);
        due("12 feelers", x.orders(110002, 1), 2);
        due("12 eyes", x.orders(110000, 1), 1);
        due("12 with a head", x.orders(110000, 0), 13860);
        due("12 one left", x.orders(111621, 0), 1);
        due("12 two left", x.orders(111611, 0), 2);
        due("12 whole", x.orders(WHOLE, 0), 1);
        due("12 none", x.orders(WHOLE, 1), NONE);
        due("12 can not be", x.orders(110030, 0), OUTSIDE);
        due("12 can not be -1", x.orders(-1, 0), OUTSIDE);
        due("12 can not be 111623", x.orders(111623, 0), OUTSIDE);
        due("12 what", x.orders(0, 2), OUTSIDE);
        due("12 what -1", x.orders(0, -1), OUTSIDE);
    }

    private static void fraction(BeetleDrive x, int drawn, int n, long upper, long lower) {
        due("13 upper " + drawn + " in " + n, x.whole(drawn, n, 0), upper);
        due("13 lower " + drawn + " in " + n, x.whole(drawn, n, 1), lower);
    }

    private static void whole() {
        BeetleDrive x = new BeetleDrive();
        fraction(x, WHOLE, 0, 1, 1);
        fraction(x, WHOLE, 24, 1, 1);
        fraction(x, 111621, 0, 0, 1);
        fraction(x, 111621, 1, 1, 6);
        fraction(x, 111621, 2, 11, 36);
        fraction(x, 111611, 2, 1, 18);
        fraction(x, 111611, 3, 5, 36);
        fraction(x, 0, 12, 0, 1);
        fraction(x, 0, 13, 77, 30233088L);
        long refused = -1000000000000000002L;
        due("13 n -1", x.whole(0, -1, 0), refused);
        due("13 n 25", x.whole(0, 25, 0), refused);
        due("13 part 2", x.whole(0, 1, 2), refused);
        due("13 part -1", x.whole(0, 1, -1), refused);
        due("13 can not be", x.whole(10000, 1, 0), refused);
    }

    private static void sums() {
        BeetleDrive x = new BeetleDrive();
        due("14 one", x.sums(1, 6), 1);
        due("14 one, 7", x.sums(1, 7), 0);
        due("14 two", x.sums(2, 7), 6);
        due("14 least", x.sums(12, 12), 1);
        due("14 below", x.sums(12, 11), 0);
        due("14 0", x.sums(3, 0), 0);
        due("14 99", x.sums(12, 99), 0);
        due("14 k 0", x.sums(0, 3), OUTSIDE);
        due("14 k 13", x.sums(13, 3), OUTSIDE);
        due("14 s -1", x.sums(3, -1), OUTSIDE);
        due("14 s 100", x.sums(3, 100), OUTSIDE);
    }

    private static void roll() {
        BeetleDrive x = new BeetleDrive();
        due("15 none", x.roll(53, 1), 5);
        due("15 to the front", x.roll(12, 10), 5);
        due("15 to the right", x.roll(12, 11), 4);
        due("15 to the back", x.roll(12, 12), 2);
        due("15 to the left", x.roll(12, 13), 3);
        due("15 front, then right: the order counts", x.roll(12, 101), 4);
        due("15 right, then front", x.roll(12, 110), 5);
        due("15 six", x.roll(12, 1333333), 6);
        int[] notSo = {11, 16, 22, 25, 34, 61, 10, 7, 1, 0, -12, 72, 17, 112, 120, Integer.MIN_VALUE,
            Integer.MAX_VALUE};
        for (int lies : notSo) {
            due("15 can not lie " + lies, x.roll(lies, 1), OUTSIDE);
        }
        int[] noRow = {0, -1, 2, 3, 9, 14, 19, 20, 23, 140, 104, 203, 333333, 1333334, 1400000, 1333343, 2000000,
            10000000, -10, Integer.MIN_VALUE, Integer.MAX_VALUE};
        for (int row : noRow) {
            due("15 no row " + row, x.roll(12, row), OUTSIDE);
            due("16 no row " + row, x.shown(row, 1), OUTSIDE);
        }
    }

    private static void shownAndForget() {
        BeetleDrive x = new BeetleDrive();
        due("16 v 0", x.shown(1, 0), OUTSIDE);
        due("16 v 7", x.shown(1, 7), OUTSIDE);
        due("17 none", x.forget(), 0);
        for (int i = 1; i <= 8; i++) {
            due("16 sight " + i, x.shown(1, 3), i);
        }
        due("16 full", x.shown(1, 3), FULL);
        due("16 outside ahead of full", x.shown(1, 7), OUTSIDE);
        due("16 told", x.told(3), 8);
        due("16 the same sights", x.lies(-1), 4);
        due("17 eight", x.forget(), 8);
        due("17 told", x.told(3), 0);
        due("17 all fit", x.lies(-1), 24);
    }

    private static void lies() {
        BeetleDrive x = new BeetleDrive();
        int[] all = {12, 13, 14, 15, 21, 23, 24, 26, 31, 32, 35, 36, 41, 42, 45, 46, 51, 53, 54, 56, 62, 63, 64, 65};
        for (int i = 0; i < 24; i++) {
            due("18 " + i, x.lies(i), all[i]);
        }
        due("18 24", x.lies(24), NONE);
        due("18 -2", x.lies(-2), NONE);
        due("18 most", x.lies(Integer.MAX_VALUE), NONE);
        due("18 least", x.lies(Integer.MIN_VALUE), NONE);
        x.shown(1, 1);
        x.shown(10, 5);
        due("18 one", x.lies(-1), 1);
        due("18 it", x.lies(0), 12);
        due("18 no second", x.lies(1), NONE);
        x.shown(1, 2);
        due("18 no more", x.lies(-1), 0);
        due("18 none", x.lies(0), NONE);
    }

    private static void ask() {
        BeetleDrive x = new BeetleDrive();
        due("19 all", x.ask(0), 1);
        due("19 all, left", x.ask(1), 4);
        x.shown(1, 1);
        due("19 top known", x.ask(0), 10);
        due("19 top known, left", x.ask(1), 1);
        x.forget();
        x.shown(10, 3);
        due("19 back known", x.ask(0), 1);
        due("19 back known, left", x.ask(1), 1);
        x.forget();
        // The right side is known: by none the four tops are told apart.
        x.shown(13, 3);
        due("19 right known", x.ask(0), 1);
        x.shown(12, 3);
        due("19 nothing fits", x.ask(0), NONE);
        due("19 nothing fits, left", x.ask(1), NONE);
        due("19 outside ahead of none", x.ask(2), OUTSIDE);
        due("19 outside -1", x.ask(-1), OUTSIDE);
    }

    private static void turn() {
        BeetleDrive x = new BeetleDrive();
        due("20 nothing left", x.turn(0, 3, 0), 0);
        due("20 nothing left, to what", x.turn(0, 3, 1), NONE);
        due("20 one", x.turn(1, 3, 1), 1);
        due("20 one, 1 on top", x.turn(1, 1, 0), 0);
        due("20 one, 1 below", x.turn(1, 6, 0), 0);
        due("20 two, 1 on top", x.turn(2, 1, 1), 2);
        due("20 two, 2 on top", x.turn(2, 2, 1), 1);
        due("20 n -1", x.turn(-1, 1, 0), OUTSIDE);
        due("20 n 100", x.turn(100, 1, 0), OUTSIDE);
        due("20 f 0", x.turn(1, 0, 0), OUTSIDE);
        due("20 f 7", x.turn(1, 7, 0), OUTSIDE);
        due("20 what 2", x.turn(1, 1, 2), OUTSIDE);
        due("20 what -1", x.turn(1, 1, -1), OUTSIDE);
    }

    /** Seed 0: x is 74, then 5624, 28652: see what each act must be. */
    private static void year() {
        BeetleDrive x = new BeetleDrive();
        // 74: left over by 8 is 2, y 9, a throw of 4: nothing, the die goes on.
        due("21 one act", x.year(0, 1, 0), 1);
        due("21 one act, parts", x.year(0, 1, 1), 0);
        // 5624: left over 0, y 703, a throw of 2: nothing, the die goes on.
        due("21 two acts", x.year(0, 2, 0), 2);
        x.player(1, 110000, 0);
        due("21 two acts with a head", x.year(0, 2, 0), 1);
        due("21 two acts with a head, parts", x.year(0, 2, 1), 3);
        x.player(0, 0, 77);
        due("21 points", x.year(0, 1, 2), 77);
        due("21 seed -1", x.year(-1, 1, 0), OUTSIDE);
        due("21 seed 10000", x.year(10000, 1, 0), OUTSIDE);
        due("21 m 0", x.year(0, 0, 0), OUTSIDE);
        due("21 m 100", x.year(0, 100, 0), OUTSIDE);
        due("21 what 3", x.year(0, 1, 3), OUTSIDE);
        due("21 what -1", x.year(0, 1, -1), OUTSIDE);
    }

    private static void yearTouchesNothing() {
        BeetleDrive x = new BeetleDrive();
        text(x, "66");
        int die = x.year(9999, 99, 0);
        due("21 the same again", x.year(9999, 99, 0), die);
        due("21 the pad stays", x.told(0), 2);
        due("21 the die stays", x.told(1), 0);
        due("21 the text is as it was", x.table(0), 1);
        for (int p = 0; p < 6; p++) {
            due("21 drawn " + p, x.told(10 + p), 0);
            due("21 points " + p, x.told(20 + p), 0);
            due("21 in " + p, x.told(30 + p), 1);
        }
    }

    private static void images() {
        BeetleDrive x = new BeetleDrive();
        due("23 not kept", x.restore(0), STATE);
        x.player(2, WHOLE, 40);
        doText(x, "C!A#.", 3);
        x.player(3, 110000, 6);
        x.shown(1, 2);
        text(x, "6");
        due("22 kept", x.image(1), 1);
        due("23 the other is not", x.restore(0), STATE);
        due("22 outside", x.image(2), OUTSIDE);
        due("22 outside -1", x.image(-1), OUTSIDE);
        due("23 outside", x.restore(2), OUTSIDE);
        due("23 outside -1", x.restore(-1), OUTSIDE);
        x.player(3, 0, 0);
        doText(x, "A#D#", 2);
        x.die(5);
        x.player(5, WHOLE, 0);
        doText(x, "F!", 1);
        x.forget();
        x.shown(1, 5);
        x.shown(1, 6);
        text(x, "..B");
        due("22 another", x.image(0), 1);
        due("23 back", x.restore(1), 1);
        due("23 the pad is not kept", x.told(0), 3);
        due("23 the pad is as said", x.fault(), 3);
        due("23 die", x.told(1), 3);
        due("23 game", x.told(2), 1);
        due("23 sights", x.told(3), 1);
        due("23 what was seen", x.lies(0), 21);
        due("23 drawn", x.told(13), 110000);
        due("23 points", x.told(23), 6);
        due("23 points 2", x.told(22), 53);
        due("23 out", x.told(30), 0);
        due("23 in", x.told(33), 1);
        x.player(3, 0, 0);
        due("23 the image stays", x.restore(1), 1);
        due("23 drawn again", x.told(13), 110000);
        due("23 the other", x.restore(0), 1);
        due("23 game of the other", x.told(2), 2);
        due("23 sights of the other", x.told(3), 2);
        due("23 in, of the other", x.told(30), 1);
        due("23 out, of the other", x.told(33), 0);
        due("23 die of the other", x.told(1), 5);
        x.wipe();
        due("22 over it", x.image(1), 1);
        x.die(0);
        due("23 the later one", x.restore(1), 1);
        due("23 die of the later one", x.told(1), 5);
    }

    private static void told() {
        BeetleDrive x = new BeetleDrive();
        x.player(5, 101300, 321);
        doText(x, "A#", 1);
        text(x, "66");
        x.shown(1, 1);
        due("24 signs", x.told(0), 2);
        due("24 die", x.told(1), 1);
        due("24 game", x.told(2), 0);
        due("24 sights", x.told(3), 1);
        due("24 drawn", x.told(15), 101300);
        due("24 points", x.told(25), 321);
        due("24 out", x.told(30), 0);
        due("24 in", x.told(35), 1);
        int[] none = {-1, 4, 9, 16, 19, 26, 29, 36, 40, 45, 100, 110, 130, Integer.MIN_VALUE, Integer.MAX_VALUE};
        for (int what : none) {
            due("24 outside " + what, x.told(what), OUTSIDE);
        }
    }

    /** The furthest numbers are refused like any other. */
    private static void extremes() {
        BeetleDrive x = new BeetleDrive();
        long gone = -1000000000000000002L;
        for (int far : new int[] {Integer.MIN_VALUE, Integer.MIN_VALUE + 1, Integer.MAX_VALUE}) {
            due("far player", x.player(far, far, far), UNKNOWN);
            due("far points", x.player(0, 0, far), OUTSIDE);
            due("far die", x.die(far), UNKNOWN);
            due("far say", x.say(far), OUTSIDE);
            due("far judge", x.judge(far), OUTSIDE);
            due("far behind", x.behind(far, far), UNKNOWN);
            due("far behind what", x.behind(0, far), OUTSIDE);
            due("far table", x.table(far), OUTSIDE);
            due("far first", x.first(far), OUTSIDE);
            due("far orders", x.orders(far, 0), OUTSIDE);
            due("far orders what", x.orders(0, far), OUTSIDE);
            due("far whole", x.whole(far, 0, 0), gone);
            due("far whole n", x.whole(0, far, 0), gone);
            due("far whole part", x.whole(0, 0, far), gone);
            due("far sums k", x.sums(far, 1), OUTSIDE);
            due("far sums s", x.sums(1, far), OUTSIDE);
            due("far shown v", x.shown(1, far), OUTSIDE);
            due("far ask", x.ask(far), OUTSIDE);
            due("far turn n", x.turn(far, 1, 0), OUTSIDE);
            due("far turn f", x.turn(1, far, 0), OUTSIDE);
            due("far turn what", x.turn(1, 1, far), OUTSIDE);
            due("far year seed", x.year(far, 1, 0), OUTSIDE);
            due("far year m", x.year(0, far, 0), OUTSIDE);
            due("far year what", x.year(0, 1, far), OUTSIDE);
            due("far image", x.image(far), OUTSIDE);
            due("far restore", x.restore(far), OUTSIDE);
        }
    }
}
