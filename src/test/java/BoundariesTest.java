import java.util.ArrayList;
import java.util.List;
import java.util.Set;
import java.util.TreeSet;

/**
 * Each sentence of the document that names a boundary case (too small, too large, empty, full, a wrap-around,
 * a refused call) has a test of its own here: of(..) tells the place and the sentence, what follows is its test.
 * No object is used for more than the 512 calls that are promised.
 */
public final class BoundariesTest {
    private static final int UNKNOWN = -1, OUTSIDE = -2, STATE = -3, FULL = -4, NO = -5, NONE = -6;
    private static final long GONE_OUTSIDE = -1000000000000000002L;
    private static final int WHOLE = 111622;
    private static final int LOW = Integer.MIN_VALUE, HIGH = Integer.MAX_VALUE;
    /** 60 signs, 60 acts: the die goes ten times round. */
    private static final String SIXTY = ".".repeat(60);

    private static int wrong = 0;
    private static int sentences = 0;
    private static String place = "";
    private static String sentence = "";
    private static boolean tested = true;
    private static final Set<Integer> promises = new TreeSet<>();

    private static void of(String where, String words) {
        closeSentence();
        place = where;
        sentence = words;
        tested = false;
        sentences++;
        if (where.startsWith("promise ")) {
            promises.add(Integer.parseInt(where.substring(8)));
        }
    }

    private static void closeSentence() {
        if (!tested) {
            wrong++;
            System.out.println(place + ", \"" + sentence + "\": has no test");
        }
    }

    private static void due(String call, long got, long want) {
        tested = true;
        if (got != want) {
            wrong++;
            System.out.println(place + ", \"" + sentence + "\": " + call + " answered " + got + ", due is " + want);
        }
    }

    private static void same(String call, String got, String want) {
        tested = true;
        if (!got.equals(want)) {
            wrong++;
            System.out.println(place + ", \"" + sentence + "\": " + call + " left " + got + ", due is " + want);
        }
    }

    public static void main(String[] args) {
        terms();
        beetles();
        pads();
        acts();
        reasons();
        games();
        drawn();
        dice();
        years();
        promises1To5();
        promises6To11();
        promises12To14();
        promises15To20();
        promises21To24();
        closeSentence();
        for (int promise = 1; promise <= 24; promise++) {
            if (!promises.contains(promise)) {
                wrong++;
                System.out.println("promise " + promise + " has no sentence here");
            }
        }
        System.out.println(wrong == 0 ? sentences + " sentences hold" : wrong + " answers are not as due");
        if (wrong != 0) {
            System.exit(1);
        }
    }

    // ---- helpers

    /** What is on the pad goes, and these signs are said. */
    private static BeetleDrive text(BeetleDrive x, String signs) {
        x.wipe();
        for (int i = 0; i < signs.length(); i++) {
            x.say(signs.charAt(i));
        }
        return x;
    }

    private static BeetleDrive pad(String signs) {
        return text(new BeetleDrive(), signs);
    }

    /** A new object on which these texts are done, with nothing on its pad. */
    private static BeetleDrive after(String... texts) {
        BeetleDrive x = new BeetleDrive();
        for (String signs : texts) {
            text(x, signs).done();
        }
        return x;
    }

    /** A new object whose player 0 has that, with a text on its pad. */
    private static BeetleDrive having(int drawn, String signs) {
        BeetleDrive x = new BeetleDrive();
        x.player(0, drawn, 0);
        return text(x, signs);
    }

    /** By cries of player 0, of no other's beetle: four calls a game. */
    private static BeetleDrive inGame(int game) {
        BeetleDrive x = new BeetleDrive();
        for (int i = 0; i < game; i++) {
            x.player(0, WHOLE, 0);
            x.say('A');
            x.say('!');
            x.done();
        }
        return x;
    }

    private static BeetleDrive seen(int... rowsAndTops) {
        BeetleDrive x = new BeetleDrive();
        for (int i = 0; i < rowsAndTops.length; i += 2) {
            x.shown(rowsAndTops[i], rowsAndTops[i + 1]);
        }
        return x;
    }

    private static void judged(String about, BeetleDrive x, int act, int why) {
        due("judge(0) of " + about, x.judge(0), act);
        due("judge(1) of " + about, x.judge(1), why);
    }

    /** All that can be looked at. */
    private static String look(BeetleDrive x) {
        StringBuilder all = new StringBuilder();
        for (int what = 0; what <= 3; what++) {
            all.append(x.told(what)).append(' ');
        }
        for (int tens = 10; tens <= 30; tens += 10) {
            for (int p = 0; p < 6; p++) {
                all.append(x.told(tens + p)).append(' ');
            }
        }
        all.append("fault ").append(x.fault()).append(" judged ").append(x.judge(0)).append(' ').append(x.judge(1));
        all.append(' ').append(x.table(0)).append(" lies ").append(x.lies(-1)).append(' ').append(x.lies(0));
        return all.append(' ').append(x.lies(3)).toString();
    }

    private interface Call {
        long on(BeetleDrive x);
    }

    private record Refused(String name, Call call, long want) {
    }

    /** Player 4 is out, the die is with 3, it is game 1, two are whole, something was seen and is kept in image 1. */
    private static BeetleDrive busy(String signs) {
        BeetleDrive x = after("E#");
        x.player(1, WHOLE, 30);
        text(x, "B!").done();
        x.player(0, 110011, 5);
        x.player(1, WHOLE, 999);
        x.player(5, WHOLE, 40);
        x.die(3);
        x.shown(1, 1);
        x.image(1);
        x.player(2, 100300, 7);
        return text(x, signs);
    }

    // ---- Terms

    private static void terms() {
        of("Terms", "An object is used for at most 512 calls after it has been made");
        BeetleDrive x = new BeetleDrive();
        for (int call = 1; call <= 507; call++) {
            x.year(call, 99, 0);
        }
        due("say(54), call 508", x.say('6'), 1);
        due("say(53), call 509", x.say('5'), 2);
        due("behind(0, 3), call 510", x.behind(0, 3), 110000);
        due("done(), call 511", x.done(), 2);
        due("told(10), call 512", x.told(10), 110000);

        of("Terms", "Calls that are refused answer, the first of these that fits: UNKNOWN -1");
        due("player(6, -1, -1)", new BeetleDrive().player(6, -1, -1), UNKNOWN);
        due("player(-1, 10000, 1000)", new BeetleDrive().player(-1, 10000, 1000), UNKNOWN);
        due("behind(6, 4) with a fault", pad("!").behind(6, 4), UNKNOWN);
        due("behind(-1, -1) with an act that can not be", pad("A!").behind(-1, -1), UNKNOWN);
        due("behind(6, 0) with a fault", pad("!").behind(6, 0), UNKNOWN);

        of("Terms", "OUTSIDE -2 (another number is not as told)");
        due("behind(0, 4) with a fault", pad("!").behind(0, 4), OUTSIDE);
        due("judge(3) with a fault", pad("!").judge(3), OUTSIDE);
        due("table(4) with a fault", pad("!").table(4), OUTSIDE);
        due("first(2) with a fault", pad("!").first(2), OUTSIDE);
        due("judge(3) with an act that can not be", pad("A!").judge(3), OUTSIDE);
        due("table(-1) with an act that can not be", pad("A!").table(-1), OUTSIDE);
        due("first(-1) with an act that can not be", pad("A!").first(-1), OUTSIDE);
        due("say(127), the pad is full", pad(SIXTY).say(127), OUTSIDE);
        due("shown(1, 7), sights are full", seen(1, 1, 1, 1, 1, 1, 1, 1, 1, 1, 1, 1, 1, 1, 1, 1).shown(1, 7), OUTSIDE);
        due("shown(2, 1), sights are full", seen(1, 1, 1, 1, 1, 1, 1, 1, 1, 1, 1, 1, 1, 1, 1, 1).shown(2, 1), OUTSIDE);
        due("restore(2), nothing was kept", new BeetleDrive().restore(2), OUTSIDE);

        of("Terms", "NO -5 (as told), STATE -3 (as told)");
        x = pad("A!!");
        due("judge(2), act 0 can not be and there is a fault", x.judge(2), NO);
        due("behind(0, 0) likewise", x.behind(0, 0), NO);
        due("table(0) likewise", x.table(0), NO);
        due("first(0) likewise", x.first(0), NO);
        due("done() likewise", x.done(), NO);

        refusalsChangeNothing();

        of("Terms", "(a sign that is said changes what fault() tells)");
        x = pad("6");
        due("fault() of 6", x.fault(), NONE);
        due("say(33)", x.say('!'), 2);
        due("fault() of 6!", x.fault(), 1);
        due("say(32)", x.say(32), OUTSIDE);
        due("fault() behind a refused sign", x.fault(), 1);
        x = pad(SIXTY);
        due("say(65), the pad is full", x.say('A'), FULL);
        due("fault() of sixty behind a refused sign", x.fault(), NONE);

        of("Terms", "Fractions are told in lowest terms by part: 0 the upper, 1 the lower number");
        due("whole(111611, 2, 0)", new BeetleDrive().whole(111611, 2, 0), 1);
        due("whole(111611, 2, 1)", new BeetleDrive().whole(111611, 2, 1), 18);
        due("whole(0, 0, 0): nought", new BeetleDrive().whole(0, 0, 0), 0);
        due("whole(0, 12, 1): nought by one", new BeetleDrive().whole(0, 12, 1), 1);
        due("whole(111622, 24, 0): one", new BeetleDrive().whole(WHOLE, 24, 0), 1);
        due("whole(111622, 24, 1): one by one", new BeetleDrive().whole(WHOLE, 24, 1), 1);

        of("Terms", "refused with GONE and the refusal");
        due("whole(0, 25, 0)", new BeetleDrive().whole(0, 25, 0), GONE_OUTSIDE);
        due("GONE", BeetleDrive.GONE + BeetleDrive.OUTSIDE, GONE_OUTSIDE);

        of("Terms", "Sets are bits");
        x = new BeetleDrive();
        due("table(2), none is whole", x.table(2), 0);
        for (int p = 0; p < 6; p++) {
            x.player(p, WHOLE, 0);
            due("table(2), whole up to " + p, x.table(2), (2 << p) - 1);
        }
    }

    private static void refusalsChangeNothing() {
        of("Terms", "They change nothing");
        for (String signs : new String[] {"6.3", "A!!", "A!", "654A", SIXTY}) {
            for (Refused refused : refusals(signs)) {
                BeetleDrive x = busy(signs);
                String before = look(x);
                due(refused.name + " on " + signs, refused.call.on(x), refused.want);
                same(refused.name + " on " + signs, look(x), before);
                due("restore(0) behind " + refused.name, x.restore(0), STATE);
                due("restore(1) behind " + refused.name, x.restore(1), 1);
                due("told(12) as it was kept, behind " + refused.name, x.told(12), 0);
            }
        }
        BeetleDrive x = seen(1, 1, 1, 1, 1, 1, 1, 1, 1, 1, 1, 1, 1, 1, 1, 1);
        String before = look(x);
        due("a ninth sight", x.shown(1, 2), FULL);
        same("a ninth sight", look(x), before);
    }

    private static List<Refused> refusals(String signs) {
        List<Refused> all = new ArrayList<>();
        for (int player : new int[] {LOW, -1, 6, HIGH}) {
            all.add(new Refused("player of " + player, x -> x.player(player, WHOLE, 1), UNKNOWN));
            all.add(new Refused("die of " + player, x -> x.die(player), UNKNOWN));
            all.add(new Refused("behind of " + player, x -> x.behind(player, 0), UNKNOWN));
        }
        for (int points : new int[] {LOW, -1, 1000, HIGH}) {
            all.add(new Refused("player, points " + points, x -> x.player(0, WHOLE, points), OUTSIDE));
        }
        for (int drawn : new int[] {LOW, -1, 1, 10000, 100001, 111623, HIGH}) {
            all.add(new Refused("player, drawn " + drawn, x -> x.player(0, drawn, 1), OUTSIDE));
            all.add(new Refused("orders, drawn " + drawn, x -> x.orders(drawn, 0), OUTSIDE));
            all.add(new Refused("whole, drawn " + drawn, x -> x.whole(drawn, 1, 0), GONE_OUTSIDE));
        }
        all.add(new Refused("die of one who is out", x -> x.die(4), STATE));
        for (int sign : new int[] {LOW, -1, 0, 32, 127, HIGH}) {
            all.add(new Refused("say " + sign, x -> x.say(sign), OUTSIDE));
        }
        for (int what : new int[] {LOW, -1, 4, HIGH}) {
            all.add(new Refused("judge " + what, x -> x.judge(what), OUTSIDE));
            all.add(new Refused("behind 0 " + what, x -> x.behind(0, what), OUTSIDE));
            all.add(new Refused("table " + what, x -> x.table(what), OUTSIDE));
            all.add(new Refused("first " + what, x -> x.first(what), OUTSIDE));
            all.add(new Refused("orders, what " + what, x -> x.orders(0, what), OUTSIDE));
            all.add(new Refused("ask " + what, x -> x.ask(what), OUTSIDE));
            all.add(new Refused("turn, what " + what, x -> x.turn(5, 5, what), OUTSIDE));
            all.add(new Refused("year, what " + what, x -> x.year(5, 5, what), OUTSIDE));
            all.add(new Refused("image " + what, x -> x.image(what), OUTSIDE));
            all.add(new Refused("restore " + what, x -> x.restore(what), OUTSIDE));
            all.add(new Refused("told " + what, x -> x.told(what), OUTSIDE));
            all.add(new Refused("sums of " + what, x -> x.sums(what == 4 ? 13 : what, 5), OUTSIDE));
            all.add(new Refused("shown by " + what, x -> x.shown(what, 1), OUTSIDE));
            all.add(new Refused("shown, v " + what, x -> x.shown(1, what == 4 ? 7 : what), OUTSIDE));
        }
        all.add(new Refused("restore, not kept", x -> x.restore(0), STATE));
        if (signs.equals(SIXTY)) {
            all.add(new Refused("say, full", x -> x.say('6'), FULL));
        }
        if (signs.equals("A!!") || signs.equals("654A") || signs.equals("A!")) {
            int want = signs.equals("A!") ? STATE : NO;
            all.add(new Refused("judge 2", x -> x.judge(2), want));
            all.add(new Refused("behind", x -> x.behind(0, 0), want));
            all.add(new Refused("table", x -> x.table(0), want));
            all.add(new Refused("first", x -> x.first(0), want));
            all.add(new Refused("done", x -> x.done(), want));
        }
        return all;
    }

    // ---- 1: beetles

    private static void beetles() {
        of("1", "LEGS (3; up to six), FEELERS (2; up to two), EYES (1; up to two)");
        drawsTheLast(3, 100500, 100600);
        drawsTheLast(2, 110010, 110020);
        drawsTheLast(1, 110001, 110002);

        of("1", "A BEETLE has a BODY (6), a HEAD (5), a TAIL (4)");
        drawsTheLast(6, 0, 100000);
        drawsTheLast(5, 100000, 110000);
        drawsTheLast(4, 100000, 101000);

        of("1", "TAIL, LEGS and HEAD are drawn only to a BODY");
        for (int thrown = 1; thrown <= 5; thrown++) {
            drawsNothing(thrown, 0);
        }

        of("1", "FEELERS and EYES only to a HEAD");
        for (int thrown = 1; thrown <= 2; thrown++) {
            drawsNothing(thrown, 100000);
            drawsNothing(thrown, 101600);
        }

        of("1", "It is WHOLE with all thirteen PARTS");
        for (int twelve : new int[] {111621, 111612, 111522, 110622}) {
            due("behind(0, 0) of " + twelve, having(twelve, "").behind(0, 0), 12);
            due("table(2) of " + twelve, having(twelve, "").table(2), 0);
        }
        due("behind(0, 0) of all", having(WHOLE, "").behind(0, 0), 13);
        due("table(2) of all", having(WHOLE, "").table(2), 1);

        of("1", "(nothing of it, at first), POINTS (0 at first), and are IN (all, at first)");
        for (int p = 0; p < 6; p++) {
            BeetleDrive x = new BeetleDrive();
            due("behind(" + p + ", 0)", x.behind(p, 0), 0);
            due("behind(" + p + ", 1)", x.behind(p, 1), 0);
            due("behind(" + p + ", 2)", x.behind(p, 2), 1);
            due("behind(" + p + ", 3)", x.behind(p, 3), 0);
        }

        of("1", "The die is with one of them (0 at first), who is IN. It is game 0 at first.");
        due("table(0)", new BeetleDrive().table(0), 0);
        due("table(1)", new BeetleDrive().table(1), 0);
        due("die(0), out", after("A#").die(0), STATE);
        due("told(1), who had it is out", after("A#").told(1), 1);
    }

    private static void drawsTheLast(int thrown, int before, int then) {
        BeetleDrive x = having(before, Integer.toString(thrown));
        due(thrown + " to " + before, x.behind(0, 3), then);
        due(thrown + " to " + before + ", the die", x.table(0), 0);
        drawsNothing(thrown, then);
    }

    private static void drawsNothing(int thrown, int before) {
        BeetleDrive x = having(before, Integer.toString(thrown));
        due(thrown + " to " + before, x.behind(0, 3), before);
        due(thrown + " to " + before + ", the die", x.table(0), 1);
        due(thrown + " to " + before + ", in vain", x.judge(2), 1);
    }

    // ---- 1: the pad and its faults

    private static void pads() {
        of("1", "GAMES are a text on a PAD of up to 60 signs");
        BeetleDrive x = pad(SIXTY.substring(1));
        due("the 60th sign", x.say('.'), 60);
        due("the 61st sign", x.say('.'), FULL);
        due("signs", x.told(0), 60);
        due("acts", x.done(), 60);

        of("1", "(codes 33 to 126)");
        x = new BeetleDrive();
        due("say(32)", x.say(32), OUTSIDE);
        due("say(33)", x.say(33), 1);
        due("say(126)", x.say(126), 2);
        due("say(127)", x.say(127), OUTSIDE);
        due("say(256 + 54)", x.say(256 + 54), OUTSIDE);
        due("say(65536 + 54)", x.say(65536 + 54), OUTSIDE);

        of("1", "a digit 1 to 6 ..; . ..; or a PLAYER's letter and ! .., or #");
        x = new BeetleDrive();
        for (int sign = 33; sign <= 126; sign++) {
            boolean act = sign == '.' || (sign >= '1' && sign <= '6');
            boolean letter = sign >= 'A' && sign <= 'F';
            text(x, String.valueOf((char) sign));
            due("fault() of " + (char) sign, x.fault(), act ? NONE : letter ? 1 : 0);
        }
        x = new BeetleDrive();
        for (int sign = 33; sign <= 126; sign++) {
            text(x, "F" + (char) sign);
            due("fault() of F" + (char) sign, x.fault(), sign == '!' || sign == '#' ? NONE : 1);
        }

        of("1", "THE FAULT: the place (from 0 on) of the first sign that can not stand there");
        due("fault() of !", pad("!").fault(), 0);
        due("fault() of 0~7", pad("0~7").fault(), 0);
        due("fault() of A#B", pad("A#Bx~").fault(), 3);
        due("fault() of the 60th", pad(SIXTY.substring(1) + "7").fault(), 59);
        due("fault() of AA, not of what must come", pad("AA").fault(), 1);

        of("1", "or the number of signs, if more must come");
        due("fault() of A", pad("A").fault(), 1);
        due("fault() of F#F", pad("F#F").fault(), 3);
        due("fault() of a letter at the 60th place", pad(SIXTY.substring(1) + "C").fault(), 60);
        due("fault() of an empty pad", pad("").fault(), NONE);
    }

    // ---- 1: acts

    private static void acts() {
        of("1", "else it goes on: to the next one who is IN, 0 being behind 5");
        BeetleDrive x = new BeetleDrive();
        x.die(5);
        due("5, a throw in vain", text(x, "1").table(0), 0);
        due("5, a dot", text(x, ".").table(0), 0);
        due("5, he goes out", text(x, "F#").table(0), 0);
        due("5, 0 is out", text(x, "A#1").table(0), 1);
        due("5, 0 to 3 are out", text(x, "A#B#C#D#1").table(0), 4);
        due("5, all others are out, a throw", text(x, "A#B#C#D#E#1").table(0), 5);
        due("5, all others are out, a dot", text(x, "A#B#C#D#E#.").table(0), 5);
        due("4, 5 and 0 are out", text(x, ".....F#A#1").table(0), 1);
        due("all round", text(x, "......").table(0), 5);

        of("1", "if a PART can be drawn by it, he has it more, and the die stays with him");
        x = pad("6");
        due("6, the die", x.table(0), 0);
        due("6, drawn", x.behind(0, 3), 100000);
        due("6, in vain", x.judge(2), 0);

        of("1", ". (the die goes on, without a throw)");
        due("no throw", pad(".").judge(2), 0);
        due("of one who is whole", having(WHOLE, ".").judge(0), NONE);

        of("1", "each one, IN or OUT, has as many POINTS more as he has PARTS, 999 at most");
        int[][] points = {{985, 998}, {986, 999}, {987, 999}, {999, 999}, {0, 13}};
        for (int[] p : points) {
            x = new BeetleDrive();
            x.player(2, WHOLE, p[0]);
            x.player(5, WHOLE, p[0]);
            text(x, "F#C!");
            due("points of who cries, " + p[0], x.behind(2, 1), p[1]);
            due("points of one who is out, " + p[0], x.behind(5, 1), p[1]);
            due("points of who has nothing", x.behind(3, 1), 0);
        }

        of("1", "all BEETLES are gone; the die is with him; it is a game more");
        x = new BeetleDrive();
        for (int p = 0; p < 6; p++) {
            x.player(p, p == 4 ? WHOLE : 100100, 0);
        }
        text(x, "F#E!");
        for (int p = 0; p < 6; p++) {
            due("behind(" + p + ", 3)", x.behind(p, 3), 0);
        }
        due("the die", x.table(0), 4);
        due("the game", x.table(1), 1);

        of("1", "or # (he is OUT, or IN again; if he has the die, it goes on)");
        due("out", pad("F#").behind(5, 2), 0);
        due("in again", pad("F#F#").behind(5, 2), 1);
        due("he has not the die", pad("B#").table(0), 0);
        due("he has the die", pad("A#").table(0), 1);
        due("in again, the die does not come back", pad("A#A#").table(0), 1);
        due("in again beside one alone, the die stays", pad("A#B#C#D#E#A#").table(0), 5);
    }

    // ---- 1: why an act can not be

    private static void reasons() {
        of("1", "1 the one who has the die is WHOLE (a digit)");
        for (int thrown = 1; thrown <= 6; thrown++) {
            judged("a throw of " + thrown, having(WHOLE, Integer.toString(thrown)), 0, 1);
        }
        judged("of one who lacks an eye", having(111621, "6"), NONE, NONE);
        judged("a throw behind the thirteenth part", having(111621, "11"), 1, 1);
        judged("a throw of the next", having(WHOLE, ".6"), NONE, NONE);

        of("1", "2 his is not WHOLE, or he is OUT (!)");
        judged("nothing drawn", pad("A!"), 0, 2);
        judged("twelve parts", having(111621, "A!"), 0, 2);
        judged("whole", having(WHOLE, "A!"), NONE, NONE);
        judged("whole and out", having(WHOLE, "A#A!"), 1, 2);
        judged("whole and in again", having(WHOLE, "A#A#A!"), NONE, NONE);
        judged("a second cry", having(WHOLE, "A!A!"), 1, 2);
        judged("another's is whole", having(WHOLE, "B!"), 0, 2);

        of("1", "3 he is the last one who is IN (#)");
        judged("the last", pad("A#B#C#D#E#F#"), 5, 3);
        judged("the last but one", pad("A#B#C#D#E#"), NONE, NONE);
        judged("one who is out, beside the last", pad("A#B#C#D#E#A#F#"), NONE, NONE);
        judged("the first of all as the last", pad("F#E#D#C#B#A#"), 5, 3);

        of("1", "4 it is game 99 (!)");
        BeetleDrive x = inGame(98);
        x.player(0, WHOLE, 0);
        judged("a cry in game 98", text(x, "A!"), NONE, NONE);
        due("game behind it", x.table(1), 99);
        judged("two cries from game 98 on", text(x, "A!6512243333331A!"), 14, 4);
        due("done() of them", x.done(), STATE);
        due("game", x.told(2), 98);

        of("1", "An ACT can not be for the least of these reasons");
        x = inGame(99);
        judged("a cry of one who is not whole, in game 99", text(x, "A!"), 0, 2);
        x.player(0, WHOLE, 0);
        judged("a cry in game 99", text(x, "A!"), 0, 4);
        judged("a cry of one who is out, in game 99", text(x, "A#A!"), 1, 2);
        judged("a throw of one who is whole, in game 99", text(x, "3"), 0, 1);
        judged("the last one who is in, in game 99", text(x, "B#C#D#E#F#A#"), 5, 3);
    }

    // ---- 2

    private static void games() {
        of("2", "JUDGED: the first ACT (from 0 on) that can not be, why");
        judged("act 0 of two", pad("A!B!"), 0, 2);
        judged("acts, not signs", pad("A#A#B#.B!"), 4, 2);
        BeetleDrive x = new BeetleDrive();
        x.player(5, WHOLE, 0);
        judged("act 59", text(x, SIXTY.substring(1) + "1"), 59, 1);
        judged("no act", pad(""), NONE, NONE);
        judged("sixty acts", pad(SIXTY), NONE, NONE);
        judged("what follows is not played", having(WHOLE, "1.A!A!"), 0, 1);

        of("2", "how many throws drew nothing in the text");
        due("none in an empty text", pad("").judge(2), 0);
        due("sixty", pad("1".repeat(60)).judge(2), 60);
        due("dots, cries and goings are none", having(WHOLE, "A!B#..").judge(2), 0);
        due("of both kinds", pad("6656").judge(2), 2);

        of("2", "BEHIND: .. what is drawn: as a number of six figures, BODY, HEAD, TAIL, LEGS, FEELERS, EYES");
        due("nothing", pad("").behind(0, 3), 0);
        due("all", having(111621, "1").behind(0, 3), WHOLE);
        due("each in its place", pad("65333221").behind(0, 3), 110321);

        of("2", "who has most POINTS and PARTS together, of as many the least");
        due("all have nothing", new BeetleDrive().table(3), 0);
        x = new BeetleDrive();
        x.player(4, 100000, 20);
        x.player(5, 0, 21);
        due("4 and 5 have as many", x.table(3), 4);
        x.player(5, 100000, 21);
        due("5 has one more", x.table(3), 5);
        x.player(1, 111621, 999);
        x.player(3, WHOLE, 999);
        due("999 and thirteen against 999 and twelve", x.table(3), 3);
        due("who has most is out", text(x, "D#").table(3), 3);
        due("both have 999 behind a cry", text(x, "D!").table(3), 1);

        of("2", "TABLE: who has the die, the game, WHOLE ones (bits)");
        x = inGame(99);
        x.die(5);
        x.player(5, WHOLE, 0);
        due("the die with 5", x.table(0), 5);
        due("game 99", x.table(1), 99);
        due("5 is whole", x.table(2), 32);
        due("5 is whole and out", text(x, "F#").table(2), 32);

        of("2", "FIRST: the first ACT by which one was WHOLE; who; NONE");
        x = having(111621, "1");
        due("act 0", x.first(0), 0);
        due("who", x.first(1), 0);
        x = new BeetleDrive();
        x.player(5, 111522, 0);
        text(x, SIXTY.substring(1) + "3");
        due("act 59", x.first(0), 59);
        due("who, by the 60th", x.first(1), 5);
        due("none in an empty text", pad("").first(0), NONE);
        due("none, who", pad("").first(1), NONE);
        due("whole before the text", having(WHOLE, ".").first(0), NONE);
        due("whole before the text, who", having(WHOLE, ".").first(1), NONE);
        due("the beetle is gone since", having(111621, "1A!").first(0), 0);
        due("twice the same one", having(111621, "1A!6512243333331").first(0), 0);

        of("2", "DONE: it is so then");
        x = having(110622, "4A!B#");
        due("acts", x.done(), 3);
        due("told(20)", x.told(20), 13);
        due("told(10)", x.told(10), 0);
        due("told(31)", x.told(31), 0);
        due("told(2)", x.told(2), 1);
    }

    // ---- 3

    private static void drawn() {
        of("3", "DRAWN tells six figures (noughts ahead vanish) as BEHIND");
        due("player(0, 0, 0)", new BeetleDrive().player(0, 0, 0), 0);
        for (int seven : new int[] {1000000, 1100000, 1111622, 111622 * 10, -100000, -WHOLE}) {
            due("player(0, " + seven + ", 0)", new BeetleDrive().player(0, seven, 0), OUTSIDE);
        }

        of("3", "it can be, if each PART hangs on what it needs");
        for (int not : new int[] {10000, 1000, 100, 600, 11000, 10011, 11622, 20, 2, 22, 100001, 100010, 101602}) {
            due("orders(" + not + ", 0)", new BeetleDrive().orders(not, 0), OUTSIDE);
        }
        for (int can : new int[] {0, 100000, 101000, 100600, 110000, 110020, 110002, 110001, 110010, WHOLE}) {
            due("player(0, " + can + ", 0)", new BeetleDrive().player(0, can, 0), 0);
            due("told(10)", having(can, "").told(10), can);
        }
        for (int more : new int[] {200000, 120000, 102000, 100700, 100900, 110030, 110003, 111623, 111632, 111722,
            112622, 121622, 211622, 999999}) {
            due("player(0, " + more + ", 0)", new BeetleDrive().player(0, more, 0), OUTSIDE);
            due("whole(" + more + ", 24, 0)", new BeetleDrive().whole(more, 24, 0), GONE_OUTSIDE);
        }

        of("3", "ORDERS: .. NONE: it is WHOLE (1 order)");
        due("orders(111622, 0)", new BeetleDrive().orders(WHOLE, 0), 1);
        due("orders(111622, 1)", new BeetleDrive().orders(WHOLE, 1), NONE);
        due("orders(111621, 0)", new BeetleDrive().orders(111621, 0), 1);
        due("orders(111621, 1)", new BeetleDrive().orders(111621, 1), 1);

        of("3", "the first number of the least such order (as a row of figures)");
        int[][] firsts = {{0, 6}, {100000, 3}, {100500, 3}, {100600, 4}, {101600, 5}, {110000, 1}, {110001, 1},
            {110002, 2}, {110022, 3}, {110622, 4}, {111522, 3}, {111612, 2}};
        for (int[] f : firsts) {
            due("orders(" + f[0] + ", 1)", new BeetleDrive().orders(f[0], 1), f[1]);
        }

        of("3", "WHOLE: that a BEETLE is WHOLE within n throws (0 to 24)");
        due("within 0, whole", new BeetleDrive().whole(WHOLE, 0, 0), 1);
        due("within 0, whole, lower", new BeetleDrive().whole(WHOLE, 0, 1), 1);
        due("within 0, not whole", new BeetleDrive().whole(111621, 0, 0), 0);
        due("within 0, not whole, lower", new BeetleDrive().whole(111621, 0, 1), 1);
        due("one throw too few", new BeetleDrive().whole(0, 12, 0), 0);
        due("just enough", new BeetleDrive().whole(0, 13, 0), 77);
        due("within 24", new BeetleDrive().whole(0, 24, 1), 197432555763400704L);
        // 6 to the 24th less 5 to the 24th: nothing of it can be shortened.
        due("within 24, an eye", new BeetleDrive().whole(111621, 24, 0), 4738381338321616896L - 59604644775390625L);
        due("within 24, an eye, lower", new BeetleDrive().whole(111621, 24, 1), 4738381338321616896L);
        due("within 25", new BeetleDrive().whole(WHOLE, 25, 0), GONE_OUTSIDE);
        due("within -1", new BeetleDrive().whole(WHOLE, -1, 0), GONE_OUTSIDE);

        of("3", "SUMS of k dice (1 to 12) thrown together: in how many ways they come to s (0 to 99)");
        BeetleDrive x = new BeetleDrive();
        for (int k = 1; k <= 12; k++) {
            due("too little for " + k, x.sums(k, k - 1), 0);
            due("the least of " + k, x.sums(k, k), 1);
            due("one more than the least of " + k, x.sums(k, k + 1), k);
            due("the most of " + k, x.sums(k, 6 * k), 1);
            due("too much for " + k, x.sums(k, 6 * k + 1), 0);
            due("99 by " + k, x.sums(k, 99), 0);
        }
        due("none to 0", x.sums(0, 0), OUTSIDE);
        due("13 to 13", x.sums(13, 13), OUTSIDE);
        due("1 to -1", x.sums(1, -1), OUTSIDE);
        due("12 to 100", x.sums(12, 100), OUTSIDE);
    }

    // ---- 4: dice

    private static void dice() {
        of("4", "opposite ones are 7 together; 1 on top and 2 to the front, it has 3 on the right");
        for (int lie = 0; lie <= 99; lie++) {
            int t = lie / 10;
            int f = lie % 10;
            boolean can = t >= 1 && t <= 6 && f >= 1 && f <= 6 && t != f && t + f != 7;
            due("roll(" + lie + ", 1)", new BeetleDrive().roll(lie, 1), can ? t : OUTSIDE);
        }
        due("roll(12, 13): what was on the right", new BeetleDrive().roll(12, 13), 3);
        due("roll(112, 1)", new BeetleDrive().roll(112, 1), OUTSIDE);
        due("roll(-12, 1)", new BeetleDrive().roll(-12, 1), OUTSIDE);

        of("4", "by a ROW of WAYS (figures, a 1 ahead; up to six of them: 1 alone is none)");
        BeetleDrive x = new BeetleDrive();
        due("1: none", x.roll(12, 1), 1);
        due("1000000: six to the front, as two", x.roll(12, 1000000), 6);
        due("1333333: six to the left, as two", x.roll(12, 1333333), 6);
        due("100000: five to the front, as one", x.roll(12, 100000), 5);
        due("10000: four to the front, as none", x.roll(12, 10000), 1);
        due("seven of them", x.roll(12, 10000000), OUTSIDE);
        due("seven of them, 13333333", x.roll(12, 13333333), OUTSIDE);
        for (int not : new int[] {LOW, -1, 0, 2, 3, 4, 9, 20, 21, 33, 333333, 2000000, HIGH}) {
            due("no 1 ahead: " + not, x.roll(12, not), OUTSIDE);
        }
        for (int unit = 1; unit <= 100000; unit *= 10) {
            int row = unit * 10;
            due("a figure 3 in " + (row + 3 * unit), x.roll(12, row + 3 * unit) > 0 ? 1 : 0, 1);
            due("a figure 4 in " + (row + 4 * unit), x.roll(12, row + 4 * unit), OUTSIDE);
            due("a figure 9 in " + (row + 9 * unit), x.roll(12, row + 9 * unit), OUTSIDE);
        }

        of("4", "SIGHTS, 8 at most");
        x = seen(1, 1, 10, 5, 11, 4, 12, 2, 13, 3, 100, 6, 1000000, 6);
        due("the eighth", x.shown(1333333, 6), 8);
        due("the ninth", x.shown(1, 1), FULL);
        due("what fits all eight", x.lies(0), 12);
        due("how many", x.lies(-1), 1);
        x = seen(1, 1, 1, 1, 1, 1, 1, 1, 1, 1, 1, 1, 1, 1);
        x.shown(1, 2);
        due("the eighth counts", x.lies(-1), 0);

        of("4", "and v (1 to 6) is on top");
        x = new BeetleDrive();
        due("v 0", x.shown(1, 0), OUTSIDE);
        due("v 7", x.shown(1, 7), OUTSIDE);
        due("v 1", x.shown(1, 1), 1);
        due("v 6", x.shown(100, 6), 2);

        of("4", "LIES: 10 times T, and F, by which all SIGHTS are so (24 can be): how many; the i-th (rising)");
        x = new BeetleDrive();
        due("how many at first", x.lies(-1), 24);
        due("the first", x.lies(0), 12);
        due("the last", x.lies(23), 65);
        for (int i = 1; i < 24; i++) {
            due("rising at " + i, x.lies(i) > x.lies(i - 1) ? 1 : 0, 1);
        }
        x = seen(1, 6);
        due("6 on top, the first", x.lies(0), 62);
        due("6 on top, the last", x.lies(3), 65);
        due("6 on top, none behind", x.lies(4), NONE);
        x.shown(1, 1);
        due("nothing fits", x.lies(-1), 0);
        due("nothing fits, the first", x.lies(0), NONE);

        of("4", "ASK: the ROW .. so that .. fewest of these are left at the most: the least; how many; NONE");
        x = new BeetleDrive();
        due("by none already, of all", x.ask(0), 1);
        due("left of all", x.ask(1), 4);
        for (int v = 1; v <= 6; v++) {
            due("the top is known", seen(1, v).ask(0), 10);
            due("left", seen(1, v).ask(1), 1);
            due("the bottom is known", seen(100, v).ask(0), 10);
            due("the front is known", seen(12, v).ask(0), 1);
            due("the left is known", seen(11, v).ask(0), 1);
        }
        due("one fits", seen(1, 1, 12, 2).ask(0), 1);
        due("one fits, left", seen(1, 1, 12, 2).ask(1), 1);
        due("nothing fits", seen(1, 1, 1, 2).ask(0), NONE);
        due("nothing fits, left", seen(1, 1, 1, 2).ask(1), NONE);

        of("4", "TURN: .. a number that is not on top, nor opposite");
        x = new BeetleDrive();
        due("turn(1, 1, 1): 1 is on top", x.turn(1, 1, 1), NONE);
        due("turn(1, 6, 1): 1 is opposite", x.turn(1, 6, 1), NONE);
        due("turn(1, 2, 1)", x.turn(1, 2, 1), 1);
        due("turn(5, 2, 1): 5 is opposite", x.turn(5, 2, 1), NONE);
        due("turn(5, 3, 1)", x.turn(5, 3, 1), 5);

        of("4", "who would come below 0 may not; who can not has lost");
        for (int f = 1; f <= 6; f++) {
            due("turn(0, " + f + ", 0)", x.turn(0, f, 0), 0);
            due("turn(0, " + f + ", 1)", x.turn(0, f, 1), NONE);
        }
        due("turn(2, 1, 1): just to 0", x.turn(2, 1, 1), 2);
        due("turn(3, 1, 1): just to 0", x.turn(3, 1, 1), 3);
        due("turn(6, 3, 1): just to 0", x.turn(6, 3, 1), 6);
        due("turn(1, 1, 0): all are too much", x.turn(1, 1, 0), 0);

        of("4", "to what he turns first for it, the least (NONE)");
        due("turn(2, 3, 1): 1 and 2 both win", x.turn(2, 3, 1), 1);
        due("turn(2, 3, 0): won", x.turn(2, 3, 0), 1);
        due("turn(98, 1, 0): won", x.turn(98, 1, 0), 1);
        due("turn(98, 1, 1): to 4", x.turn(98, 1, 1), 4);
        due("turn(3, 3, 1): lost", x.turn(3, 3, 1), NONE);
        due("turn(3, 3, 0): lost", x.turn(3, 3, 0), 0);
    }

    // ---- 4: years

    private static void years() {
        of("4", "A YEAR by a seed (0 to 9999) of m ACTS (1 to 99)");
        BeetleDrive x = new BeetleDrive();
        // 0 becomes 74: 9 by 8, 2 over: a throw of 4, in vain. 9999 becomes 29092: 3636, 4 over: a throw of 1.
        due("year(0, 1, 0)", x.year(0, 1, 0), 1);
        due("year(9999, 1, 0)", x.year(9999, 1, 0), 1);
        due("year(9999, 1, 0) of one with a head", having(110000, "").year(9999, 1, 1), 3);
        due("year(0, 99, 1)", x.year(0, 99, 1) >= x.year(0, 1, 1) ? 1 : 0, 1);
        due("year(-1, 1, 0)", x.year(-1, 1, 0), OUTSIDE);
        due("year(10000, 1, 0)", x.year(10000, 1, 0), OUTSIDE);
        due("year(0, 0, 0)", x.year(0, 0, 0), OUTSIDE);
        due("year(0, 100, 0)", x.year(0, 100, 0), OUTSIDE);

        of("4", "0 to 5 a throw of 1 and y left over by 6");
        // 1 becomes 149: y 18, 5 over: a throw of 1. 876 becomes 237: y 29, 5 over: a throw of 6.
        due("year(1, 1, 1): the least throw", having(110000, "").year(1, 1, 1), 3);
        due("year(876, 1, 1): the most", new BeetleDrive().year(876, 1, 1), 1);
        due("year(876, 1, 0): it draws", new BeetleDrive().year(876, 1, 0), 0);
        due("year(876, 1, 0): in vain", having(100000, "").year(876, 1, 0), 1);

        of("4", "6 PLAYER .. is OUT, or IN again, if y by 6 (cut) left over by 4 is 0, else the die goes on");
        // 919 becomes 3462: y 432, 6 over: 72 by 6: player 0. 1778 becomes 2350: y 293, 48 by 6: player 5.
        due("year(919, 1, 0): 0 goes", new BeetleDrive().year(919, 1, 0), 1);
        due("year(1778, 1, 0): 5 goes", new BeetleDrive().year(1778, 1, 0), 0);
        due("year(919, 1, 0) of 5 alone: 0 comes", after("A#B#C#D#E#").year(919, 1, 0), 5);
        // 4 becomes 374: y 46, 6 over: 7 by 6, 3 over by 4: the die goes on.
        due("year(4, 1, 0)", new BeetleDrive().year(4, 1, 0), 1);
        x = new BeetleDrive();
        x.die(5);
        due("year(4, 1, 0) from 5 on", x.year(4, 1, 0), 0);
        due("year(1778, 1, 0) from 5 on: he goes", x.year(1778, 1, 0), 0);
        due("year(4, 1, 0) of one alone", after("A#B#C#D#E#").year(4, 1, 0), 5);
        // 1842 becomes 7150: y 893, 148 by 6, 0 over by 4. 1826 becomes 5950: y 743, 123 by 6, 3 over by 4.
        due("year(1842, 1, 0): 5 goes", new BeetleDrive().year(1842, 1, 0), 0);
        due("year(1826, 1, 0): the die goes on", new BeetleDrive().year(1826, 1, 0), 1);

        of("4", "7 PLAYER y left over by 6 cries");
        // 1757 becomes 775: y 96, 7 over: player 0. 15 becomes 1199: y 149, 7 over: player 5.
        x = new BeetleDrive();
        x.player(0, 100000, 990);
        x.player(5, WHOLE, 0);
        due("year(15, 1, 0)", x.year(15, 1, 0), 5);
        due("year(15, 1, 1)", x.year(15, 1, 1), 0);
        due("year(15, 1, 2)", x.year(15, 1, 2), 991);
        x.player(0, WHOLE, 990);
        due("year(1757, 1, 2): 999 at most", x.year(1757, 1, 2), 999);

        of("4", "each if that can be");
        due("year(1757, 1, 1): 0 is not whole", having(111621, "").year(1757, 1, 1), 12);
        due("year(1757, 1, 2): 0 is not whole", having(111621, "").year(1757, 1, 2), 0);
        x = after("A#");
        x.player(0, WHOLE, 0);
        due("year(1757, 1, 1): 0 is out", x.year(1757, 1, 1), 13);
        due("year(1757, 1, 0): 0 is out", x.year(1757, 1, 0), 1);
        due("year(1, 1, 0): who has the die is whole", having(WHOLE, "").year(1, 1, 0), 0);
        due("year(1, 1, 1): who has the die is whole", having(WHOLE, "").year(1, 1, 1), 13);
        // 7236 becomes 18478: player 5 goes; then 9647: player 5 cries, which he can, for he was the last one in.
        x = after("A#B#C#D#E#");
        x.player(5, WHOLE, 0);
        due("year(7236, 1, 0): 5 is the last", x.year(7236, 1, 0), 5);
        due("year(7236, 1, 1): he has all", x.year(7236, 1, 1), 13);
        due("year(7236, 2, 1): he is still in", x.year(7236, 2, 1), 0);
        x = new BeetleDrive();
        x.player(5, WHOLE, 0);
        due("year(7236, 2, 1): he is out", x.year(7236, 2, 1), 13);
        x = inGame(98);
        x.player(0, WHOLE, 0);
        due("year(1757, 1, 2): in game 98", x.year(1757, 1, 2), 13);
        x = inGame(99);
        x.player(0, WHOLE, 0);
        due("year(1757, 1, 2): in game 99", x.year(1757, 1, 2), 0);
        due("year(1757, 1, 1): in game 99", x.year(1757, 1, 1), 13);

        of("4", "from all as it is");
        x = busy("66");
        due("year(0, 1, 1)", x.year(0, 1, 1), 4 + 13 + 4 + 13);
        due("year(0, 1, 2)", x.year(0, 1, 2), 5);
        due("year(0, 1, 0): past 4, who is out", x.year(0, 1, 0), 5);

        of("4", "Nothing is DONE in fact");
        x = busy("6.3");
        String before = look(x);
        x.year(15, 99, 0);
        x.year(9999, 99, 1);
        x.year(1757, 1, 2);
        same("year", look(x), before);
    }

    // ---- the promises, one by one

    private static void promises1To5() {
        of("promise 1", "Six, nothing drawn.");
        BeetleDrive x = new BeetleDrive();
        due("told(10)", x.told(10), 0);
        due("told(15)", x.told(15), 0);
        due("told(35)", x.told(35), 1);
        due("told(36)", x.told(36), OUTSIDE);
        due("told(0)", x.told(0), 0);
        due("told(3)", x.told(3), 0);

        of("promise 2", "UNKNOWN");
        for (int p : new int[] {LOW, -1, 6, HIGH}) {
            due("player(" + p + ", 0, 0)", new BeetleDrive().player(p, 0, 0), UNKNOWN);
        }
        due("player(0, 0, 0)", new BeetleDrive().player(0, 0, 0), 0);
        due("player(5, 0, 0)", new BeetleDrive().player(5, 0, 0), 0);

        of("promise 2", "OUTSIDE: it can not be, POINTS 0 to 999.");
        x = new BeetleDrive();
        due("points 999", x.player(0, 0, 999), 0);
        due("points 0", x.player(0, 0, 0), 999);
        due("points -1", x.player(0, 0, -1), OUTSIDE);
        due("points 1000", x.player(0, 0, 1000), OUTSIDE);
        due("a head without a body", x.player(0, 10000, 0), OUTSIDE);
        due("seven legs", x.player(0, 100700, 0), OUTSIDE);
        due("all, and a leg more", x.player(0, 111722, 0), OUTSIDE);

        of("promise 2", "What a PLAYER has DRAWN, his POINTS: the POINTS he had.");
        x = new BeetleDrive();
        due("at first", x.player(5, WHOLE, 999), 0);
        due("then", x.player(5, 0, 0), 999);
        due("told(15)", x.told(15), 0);
        due("told(25)", x.told(25), 0);
        due("the die stays", x.told(1), 0);

        of("promise 3", "UNKNOWN");
        for (int p : new int[] {LOW, -1, 6, HIGH}) {
            due("die(" + p + ")", new BeetleDrive().die(p), UNKNOWN);
        }
        due("die(0)", new BeetleDrive().die(0), 0);
        due("die(5)", new BeetleDrive().die(5), 0);

        of("promise 3", "STATE: he is OUT.");
        x = after("F#");
        due("die(5)", x.die(5), STATE);
        due("told(1)", x.told(1), 0);
        text(x, "F#").done();
        due("die(5), in again", x.die(5), 0);
        due("told(1), in again", x.told(1), 5);
        due("die(1), out on the pad alone", pad("B#").die(1), 0);

        of("promise 4", "OUTSIDE");
        for (int sign : new int[] {LOW, -1, 0, 32, 127, 255, HIGH}) {
            due("say(" + sign + ")", new BeetleDrive().say(sign), OUTSIDE);
        }

        of("promise 4", "FULL");
        x = pad(SIXTY);
        due("say(33)", x.say(33), FULL);
        due("told(0)", x.told(0), 60);
        x.done();
        due("say(33), done since", x.say(33), 1);
        x = pad(SIXTY);
        x.wipe();
        due("say(33), wiped since", x.say(33), 1);

        of("promise 5", "Signs go: how many there were.");
        x = pad(SIXTY);
        due("sixty", x.wipe(), 60);
        due("none", x.wipe(), 0);
        due("told(0)", x.told(0), 0);
        due("fault()", x.fault(), NONE);
        due("with a fault", pad("!!").wipe(), 2);
    }

    private static void promises6To11() {
        of("promise 6", "THE FAULT; NONE.");
        due("empty", pad("").fault(), NONE);
        due("an act that can not be is none", pad("A!").fault(), NONE);
        due("at 0", pad("7").fault(), 0);
        due("more must come", pad("6A").fault(), 2);

        of("promise 7", "JUDGED: .. NONE.");
        judged("an empty text", pad(""), NONE, NONE);
        judged("a text that can be", pad("6A#A#"), NONE, NONE);
        due("how many is never none", pad("").judge(2), 0);

        of("promise 7", "OUTSIDE");
        for (int what : new int[] {LOW, -1, 3, HIGH}) {
            due("judge(" + what + ")", new BeetleDrive().judge(what), OUTSIDE);
        }

        of("promise 7", "NO: there is a FAULT");
        for (String signs : new String[] {"!", "A", "6A", "A!!", "A#7"}) {
            for (int what = 0; what <= 2; what++) {
                due("judge(" + what + ") of " + signs, pad(signs).judge(what), NO);
            }
        }

        of("promise 7", "STATE (2): some ACT can not be.");
        due("judge(2)", pad("1A!").judge(2), STATE);
        due("judge(0)", pad("1A!").judge(0), 1);
        due("judge(1)", pad("1A!").judge(1), 2);

        of("promise 8", "UNKNOWN; OUTSIDE");
        for (int p : new int[] {LOW, -1, 6, HIGH}) {
            due("behind(" + p + ", 0)", new BeetleDrive().behind(p, 0), UNKNOWN);
        }
        for (int what : new int[] {LOW, -1, 4, HIGH}) {
            due("behind(5, " + what + ")", new BeetleDrive().behind(5, what), OUTSIDE);
        }

        of("promise 8", "NO, STATE, as of judge(2).");
        for (int what = 0; what <= 3; what++) {
            due("behind(5, " + what + ") with a fault", pad("6A").behind(5, what), NO);
            due("behind(5, " + what + ") with an act that can not be", pad("6A!").behind(5, what), STATE);
        }

        of("promise 9", "OUTSIDE; NO, STATE, likewise.");
        for (int what : new int[] {LOW, -1, 4, HIGH}) {
            due("table(" + what + ")", new BeetleDrive().table(what), OUTSIDE);
        }
        for (int what = 0; what <= 3; what++) {
            due("table(" + what + ") with a fault", pad("6A").table(what), NO);
            due("table(" + what + ") with an act that can not be", pad("6A!").table(what), STATE);
        }

        of("promise 10", "OUTSIDE; NO, STATE, likewise.");
        for (int what : new int[] {LOW, -1, 2, HIGH}) {
            due("first(" + what + ")", new BeetleDrive().first(what), OUTSIDE);
        }
        for (int what = 0; what <= 1; what++) {
            due("first(" + what + ") with a fault", pad("6A").first(what), NO);
            due("first(" + what + ") with an act that can not be", having(111621, "11").first(what), STATE);
            due("first(" + what + ") of none", pad("6").first(what), NONE);
        }

        of("promise 11", "GAMES are DONE (the PAD is empty then): ACTS.");
        BeetleDrive x = pad("");
        due("no act", x.done(), 0);
        x = pad(SIXTY);
        due("sixty", x.done(), 60);
        due("told(0)", x.told(0), 0);
        due("thirty of sixty signs", pad("F#".repeat(30)).done(), 30);

        of("promise 11", "NO, STATE, likewise.");
        x = pad("6A");
        due("with a fault", x.done(), NO);
        due("with a fault, the pad stays", x.told(0), 2);
        due("with a fault, nothing is done", x.told(10), 0);
        x = pad("6A!");
        due("with an act that can not be", x.done(), STATE);
        due("with an act that can not be, the pad stays", x.told(0), 3);
        due("with an act that can not be, nothing is done", x.told(10), 0);
    }

    private static void promises12To14() {
        of("promise 12", "OUTSIDE: it can not be, what.");
        BeetleDrive x = new BeetleDrive();
        for (int drawn : new int[] {LOW, -1, 1, 99999, 100007, 111623, 1111622, HIGH}) {
            due("orders(" + drawn + ", 0)", x.orders(drawn, 0), OUTSIDE);
            due("orders(" + drawn + ", 1)", x.orders(drawn, 1), OUTSIDE);
        }
        for (int what : new int[] {LOW, -1, 2, HIGH}) {
            due("orders(0, " + what + ")", x.orders(0, what), OUTSIDE);
        }
        due("orders(0, 0): the most", x.orders(0, 0), 33264);

        of("promise 13", "OUTSIDE: it can not be, n, part.");
        for (int drawn : new int[] {LOW, -1, 1, 99999, 100007, 111623, 1111622, HIGH}) {
            due("whole(" + drawn + ", 0, 0)", x.whole(drawn, 0, 0), GONE_OUTSIDE);
        }
        for (int n : new int[] {LOW, -1, 25, HIGH}) {
            due("whole(0, " + n + ", 1)", x.whole(0, n, 1), GONE_OUTSIDE);
        }
        for (int part : new int[] {LOW, -1, 2, HIGH}) {
            due("whole(0, 0, " + part + ")", x.whole(0, 0, part), GONE_OUTSIDE);
        }

        of("promise 14", "a refusal as it is. OUTSIDE.");
        for (int k : new int[] {LOW, -1, 0, 13, HIGH}) {
            due("sums(" + k + ", 12)", x.sums(k, 12), OUTSIDE);
        }
        for (int s : new int[] {LOW, -1, 100, HIGH}) {
            due("sums(12, " + s + ")", x.sums(12, s), OUTSIDE);
        }
    }

    private static void promises15To20() {
        of("promise 15", "OUTSIDE: it can not lie so, a ROW that is none.");
        BeetleDrive x = new BeetleDrive();
        for (int lies : new int[] {LOW, -12, 0, 1, 9, 10, 11, 16, 17, 61, 66, 67, 70, 72, 112, HIGH}) {
            due("roll(" + lies + ", 1)", x.roll(lies, 1), OUTSIDE);
        }
        for (int row : new int[] {LOW, -1, 0, 2, 14, 41, 1333334, 1400000, 2000000, 10000000, HIGH}) {
            due("roll(12, " + row + ")", x.roll(12, row), OUTSIDE);
        }
        due("roll(65, 1333333)", x.roll(65, 1333333), 1);

        of("promise 16", "OUTSIDE: a ROW that is none, v");
        for (int row : new int[] {LOW, -1, 0, 2, 14, 41, 1333334, 1400000, 2000000, 10000000, HIGH}) {
            due("shown(" + row + ", 1)", x.shown(row, 1), OUTSIDE);
        }
        for (int v : new int[] {LOW, -1, 0, 7, HIGH}) {
            due("shown(1, " + v + ")", x.shown(1, v), OUTSIDE);
        }
        due("told(3)", x.told(3), 0);

        of("promise 16", "A SIGHT more: how many. .. FULL.");
        for (int i = 1; i <= 8; i++) {
            due("shown(1, 6), " + i, x.shown(1, 6), i);
        }
        due("shown(1, 6), 9", x.shown(1, 6), FULL);
        due("told(3)", x.told(3), 8);

        of("promise 17", "SIGHTS go: how many there were.");
        due("eight", x.forget(), 8);
        due("none", x.forget(), 0);
        due("all fit again", x.lies(-1), 24);
        due("room again", x.shown(1, 1), 1);
        due("the new one counts alone", x.lies(0), 12);

        of("promise 18", "LIES: how many (i = -1), the i-th; NONE.");
        x = new BeetleDrive();
        due("lies(-1)", x.lies(-1), 24);
        due("lies(23)", x.lies(23), 65);
        for (int i : new int[] {LOW, -2, 24, HIGH}) {
            due("lies(" + i + ")", x.lies(i), NONE);
        }

        of("promise 19", "NONE: nothing fits. OUTSIDE.");
        x = seen(1, 1, 1, 6);
        due("ask(0)", x.ask(0), NONE);
        due("ask(1)", x.ask(1), NONE);
        for (int what : new int[] {LOW, -1, 2, HIGH}) {
            due("ask(" + what + ") where nothing fits", x.ask(what), OUTSIDE);
            due("ask(" + what + ")", new BeetleDrive().ask(what), OUTSIDE);
        }

        of("promise 20", "TURN: whether (what = 0), to what (1; NONE). OUTSIDE.");
        for (int n : new int[] {LOW, -1, 100, HIGH}) {
            due("turn(" + n + ", 1, 0)", x.turn(n, 1, 0), OUTSIDE);
        }
        for (int f : new int[] {LOW, -1, 0, 7, HIGH}) {
            due("turn(9, " + f + ", 0)", x.turn(9, f, 0), OUTSIDE);
        }
        for (int what : new int[] {LOW, -1, 2, HIGH}) {
            due("turn(9, 1, " + what + ")", x.turn(9, 1, what), OUTSIDE);
        }
        // In what is left over by nine, 0 is lost whatever lies on top.
        for (int f = 1; f <= 6; f++) {
            due("turn(99, " + f + ", 0)", x.turn(99, f, 0), 0);
            due("turn(99, " + f + ", 1)", x.turn(99, f, 1), NONE);
        }
    }

    private static void promises21To24() {
        of("promise 21", "A YEAR: the die (what = 0), PARTS (1), POINTS (2). OUTSIDE.");
        BeetleDrive x = new BeetleDrive();
        for (int seed : new int[] {LOW, -1, 10000, HIGH}) {
            due("year(" + seed + ", 1, 0)", x.year(seed, 1, 0), OUTSIDE);
        }
        for (int m : new int[] {LOW, -1, 0, 100, HIGH}) {
            due("year(0, " + m + ", 0)", x.year(0, m, 0), OUTSIDE);
        }
        for (int what : new int[] {LOW, -1, 3, HIGH}) {
            due("year(0, 1, " + what + ")", x.year(0, 1, what), OUTSIDE);
        }

        of("promise 22", "All but the PAD is kept in an IMAGE (0, 1): 1. OUTSIDE.");
        for (int k : new int[] {LOW, -1, 2, HIGH}) {
            due("image(" + k + ")", new BeetleDrive().image(k), OUTSIDE);
        }
        x = seen(1, 1, 1, 1, 1, 1, 1, 1, 1, 1, 1, 1, 1, 1, 1, 1);
        text(x, "A#").done();
        text(x, SIXTY);
        due("image(0)", x.image(0), 1);
        x.forget();
        text(x, "A#").done();
        due("restore(0)", x.restore(0), 1);
        due("the pad was not kept", x.told(0), 0);
        due("a ninth sight again", x.shown(1, 1), FULL);
        due("0 is out again", x.told(30), 0);
        due("the die", x.told(1), 1);

        of("promise 23", "It is as it was when it was kept: 1. OUTSIDE");
        for (int k : new int[] {LOW, -1, 2, HIGH}) {
            due("restore(" + k + ")", new BeetleDrive().restore(k), OUTSIDE);
        }
        x = busy("66");
        String before = look(x);
        due("image(0)", x.image(0), 1);
        due("restore(1)", x.restore(1), 1);
        due("told(12), as it was in 1", x.told(12), 0);
        due("restore(0)", x.restore(0), 1);
        same("restore(0)", look(x), before);
        x = seen(1, 1, 12, 2);
        x.image(0);
        x.forget();
        x.shown(1, 6);
        x.shown(10, 3);
        x.restore(0);
        due("told(3), two sights", x.told(3), 2);
        due("lies(-1), by both as they were", x.lies(-1), 1);
        due("lies(0), by both as they were", x.lies(0), 12);
        x = seen(1, 1, 1, 1, 1, 1, 1, 1, 1, 1, 1, 1, 1, 1, 12, 2);
        x.image(1);
        x.forget();
        x.restore(1);
        due("told(3), eight sights", x.told(3), 8);
        due("lies(-1), by the eighth too", x.lies(-1), 1);

        of("promise 23", "STATE: it was not.");
        x = new BeetleDrive();
        due("restore(0)", x.restore(0), STATE);
        due("restore(1)", x.restore(1), STATE);
        x.image(1);
        due("restore(0), 1 was kept", x.restore(0), STATE);
        due("restore(1), 1 was kept", x.restore(1), 1);
        x.image(0);
        due("restore(0), both were kept", x.restore(0), 1);

        of("promise 24", "10 and a PLAYER: DRAWN; 20 and a PLAYER: POINTS; 30 and a PLAYER: IN (1, 0). OUTSIDE.");
        x = new BeetleDrive();
        for (int what = -1; what <= 41; what++) {
            boolean player = what >= 10 && what <= 39 && what % 10 <= 5;
            boolean fine = (what >= 0 && what <= 3) || player;
            due("told(" + what + ")", x.told(what), !fine ? OUTSIDE : what >= 30 ? 1 : 0);
        }
        for (int what : new int[] {LOW, -10, -30, 100, 110, 130, 1010, HIGH}) {
            due("told(" + what + ")", x.told(what), OUTSIDE);
        }
        x = after("F#");
        x.player(0, 100000, 1);
        x.player(5, WHOLE, 999);
        due("told(10)", x.told(10), 100000);
        due("told(15)", x.told(15), WHOLE);
        due("told(20)", x.told(20), 1);
        due("told(25)", x.told(25), 999);
        due("told(30)", x.told(30), 1);
        due("told(35)", x.told(35), 0);
    }
}
