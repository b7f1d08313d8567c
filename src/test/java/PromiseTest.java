/** For each promise of the document: ordinary inputs, its edges, and what it refuses. */
public final class PromiseTest {
    private static final int NONE = SnowBalls.NONE, UNKNOWN = SnowBalls.UNKNOWN, OUTSIDE = SnowBalls.OUTSIDE;
    private static final int STATE = SnowBalls.STATE, FULL = SnowBalls.FULL;
    private static final int BALL = 0, DRUM = 1, POWDER = 2, WET = 3, SLUSH = 4;
    private static final int UP = 0, RIGHT = 1, DOWN = 2, LEFT = 3;
    private static final int MAX = Integer.MAX_VALUE, MIN = Integer.MIN_VALUE;
    private static final String NINES = "99999/99999/99999/99999;9";
    private static final String FOURS = "44444/44444/44444/44444;4";
    private static final String GREEN = "00000/00000/00000/00000;5";
    private static final String STEPS = "01234/56789/01234/56789;4";

    private static int passed = 0;
    private static int failed = 0;

    public static void main(String[] args) {
        constants();
        promise1NewObject();
        promise2Letter();
        promise3Blank();
        promise4Fault();
        promise5Lawn();
        promise6Place();
        promise7Strength();
        promise8Ball();
        promise9About();
        promise10As();
        promise11May();
        promise12Roll();
        promise12Breadth();
        promise12Crumbles();
        promise13Lift();
        promise14Day();
        promise14Kinds();
        promise14Stacks();
        promise15Largest();
        promise15Crumbles();
        promise16Comes();
        searchesTogether();
        promise17Highest();
        promise18Lasts();
        promise19Book();
        promise19Limit();
        promise20Games();
        promise21And22Image();
        promise23Count();
        promise24Digest();
        System.out.println(passed + " passed, " + failed + " failed");
        if (failed != 0) System.exit(1);
    }

    private static void due(String what, long got, long want) {
        if (got == want) {
            passed++;
        } else {
            failed++;
            System.out.println(what + ": answered " + got + ", due is " + want);
        }
    }

    private static void type(SnowBalls x, String text) {
        for (int i = 0; i < text.length(); i++) x.letter(text.charAt(i));
    }

    private static SnowBalls on(String lawn) {
        SnowBalls x = new SnowBalls();
        type(x, lawn);
        x.lawn();
        return x;
    }

    /** Rolls a ball by sides told as letters of "urdl": the last answer. */
    private static int rolls(SnowBalls x, int ball, String sides) {
        int last = NONE;
        for (int i = 0; i < sides.length(); i++) last = x.roll(ball, "urdl".indexOf(sides.charAt(i)));
        return last;
    }

    private static void constants() {
        due("NONE", SnowBalls.NONE, -1);
        due("UNKNOWN", SnowBalls.UNKNOWN, -101);
        due("OUTSIDE", SnowBalls.OUTSIDE, -102);
        due("STATE", SnowBalls.STATE, -103);
        due("FULL", SnowBalls.FULL, -104);
    }

    private static void promise1NewObject() {
        SnowBalls x = new SnowBalls();
        long[] counts = {0, 0, 0, 0, 0, 20, 0, 0, 0, 0, 0, 0};
        for (int what = 0; what < 12; what++) due("1 count " + what, x.count(what), counts[what]);
        due("1 no lawn", x.place(0, 0), STATE);
        due("1 no image", x.restore(), STATE);
    }

    private static void promise2Letter() {
        SnowBalls x = new SnowBalls();
        due("2 below", x.letter(31), OUTSIDE);
        due("2 above", x.letter(127), OUTSIDE);
        due("2 far below", x.letter(MIN), OUTSIDE);
        due("2 far above", x.letter(MAX), OUTSIDE);
        due("2 a char's worth above", x.letter(65536 + 52), OUTSIDE);
        due("2 least", x.letter(32), 1);
        due("2 greatest", x.letter(126), 2);
        for (int i = 3; i <= 26; i++) due("2 letter", x.letter('4'), i);
        due("2 full", x.letter('4'), FULL);
        due("2 outside ahead of full", x.letter(31), OUTSIDE);
        due("2 still 26", x.count(8), 26);
        x.blank();
        due("2 again", x.letter('4'), 1);
    }

    private static void promise3Blank() {
        SnowBalls x = new SnowBalls();
        due("3 empty", x.blank(), 0);
        type(x, "44/");
        due("3 three", x.blank(), 3);
        due("3 then none", x.blank(), 0);
        type(x, FOURS);
        x.lawn();
        due("3 read", x.blank(), 0);
    }

    private static int faultOf(String text) {
        SnowBalls x = new SnowBalls();
        type(x, text);
        return x.fault();
    }

    private static void promise4Fault() {
        due("4 empty", faultOf(""), 0);
        due("4 whole", faultOf(FOURS), 25);
        due("4 one too many", faultOf(FOURS + "4"), 25);
        due("4 ahead", faultOf("44444/4"), 7);
        due("4 slash first", faultOf("/"), 0);
        due("4 slash early", faultOf("4444/"), 4);
        due("4 slash late", faultOf("444444"), 5);
        due("4 semicolon early", faultOf("44444;"), 5);
        due("4 slash for semicolon", faultOf("44444/44444/44444/44444/"), 23);
        due("4 digit for semicolon", faultOf("44444/44444/44444/444444"), 23);
        due("4 wetness no digit", faultOf("44444/44444/44444/44444;/"), 24);
        due("4 below digits", faultOf("4/444"), 1);
        due("4 above digits", faultOf("44:44"), 2);
        due("4 blank sign", faultOf(" "), 0);
        due("4 the first of two", faultOf("4x4x"), 1);
        due("4 digits 0 and 9", faultOf("09090/9"), 7);
    }

    private static void promise5Lawn() {
        SnowBalls x = new SnowBalls();
        due("5 empty page", x.lawn(), STATE);
        type(x, "44444/44444/44444/44444;");
        due("5 one too few", x.lawn(), STATE);
        due("5 page stays", x.count(8), 24);
        x.letter('3');
        due("5 read", x.lawn(), 80);
        due("5 page empty", x.count(8), 0);
        due("5 wetness", x.count(4), 3);
        type(x, FOURS + "4");
        due("5 one too many", x.lawn(), STATE);
        x.blank();
        type(x, "44444/44444/44444/4444x;4");
        due("5 a fault", x.lawn(), STATE);
        x.blank();
        x.ball(BALL, 3);
        x.day(0);
        x.strength(7);
        due("5 read once", x.count(9), 1);
        type(x, STEPS);
        due("5 another", x.lawn(), 10 + 35 + 10 + 35);
        due("5 balls gone", x.count(1), 0);
        due("5 no ball known", x.about(0, 0), UNKNOWN);
        due("5 days gone", x.count(6), 0);
        due("5 strength", x.count(5), 20);
        due("5 read twice", x.count(9), 2);
        due("5 place free", x.place(3, 1), NONE);
    }

    private static void promise6Place() {
        SnowBalls x = on(STEPS);
        int[] depths = {0, 1, 2, 3, 4, 5, 6, 7, 8, 9, 0, 1, 2, 3, 4, 5, 6, 7, 8, 9};
        for (int p = 0; p < 20; p++) due("6 depth " + p, x.place(p, 0), depths[p]);
        due("6 nobody", x.place(4, 1), NONE);
        due("6 no height", x.place(4, 2), 0);
        x.ball(BALL, 4);
        due("6 the ball", x.place(4, 1), 0);
        due("6 height", x.place(4, 2), 1);
        due("6 place below", x.place(-1, 0), UNKNOWN);
        due("6 place above", x.place(20, 0), UNKNOWN);
        due("6 what below", x.place(0, -1), OUTSIDE);
        due("6 what above", x.place(0, 3), OUTSIDE);
        due("6 unknown first", x.place(20, 3), UNKNOWN);
        SnowBalls none = new SnowBalls();
        due("6 unknown ahead of state", none.place(20, 0), UNKNOWN);
        due("6 outside ahead of state", none.place(0, 3), OUTSIDE);
        due("6 state", none.place(0, 0), STATE);
        SnowBalls stack = stackOfTwo();
        due("6 the lowest one", stack.place(1, 1), 0);
        due("6 height of two", stack.place(1, 2), 2);
    }

    /** Ball 0 (size 2) on place 1, ball 1 (size 1) lifted on it. */
    private static SnowBalls stackOfTwo() {
        SnowBalls x = on(NINES);
        x.ball(BALL, 0);
        x.roll(0, RIGHT);
        x.ball(BALL, 2);
        x.lift(1, 0);
        return x;
    }

    private static void promise7Strength() {
        SnowBalls x = new SnowBalls();
        due("7 no lawn", x.strength(5), STATE);
        due("7 outside ahead of state", x.strength(0), OUTSIDE);
        x = on(FOURS);
        due("7 was 20", x.strength(1), 20);
        due("7 was 1", x.strength(99), 1);
        due("7 below", x.strength(0), OUTSIDE);
        due("7 above", x.strength(100), OUTSIDE);
        due("7 far below", x.strength(MIN), OUTSIDE);
        due("7 is 99", x.count(5), 99);
    }

    private static void promise8Ball() {
        SnowBalls x = new SnowBalls();
        due("8 no lawn", x.ball(BALL, 0), STATE);
        due("8 unknown", x.ball(BALL, 20), UNKNOWN);
        due("8 unknown below", x.ball(BALL, -1), UNKNOWN);
        due("8 unknown ahead of outside", x.ball(5, 20), UNKNOWN);
        due("8 outside", x.ball(5, 0), OUTSIDE);
        due("8 outside below", x.ball(-1, 0), OUTSIDE);
        x = on(FOURS);
        due("8 first", x.ball(SLUSH, 0), 0);
        due("8 there is one", x.ball(BALL, 0), STATE);
        due("8 second", x.ball(WET, 19), 1);
        due("8 third", x.ball(POWDER, 7), 2);
        due("8 fourth", x.ball(DRUM, 8), 3);
        due("8 full", x.ball(BALL, 9), FULL);
        due("8 state ahead of full", x.ball(BALL, 7), STATE);
        due("8 four", x.count(1), 4);
        due("8 depth stays", x.place(0, 0), 4);
        x.day(9);
        due("8 gone ones count", x.ball(BALL, 9), FULL);
        SnowBalls stack = stackOfTwo();
        due("8 on a stack", stack.ball(BALL, 1), STATE);
        due("8 where one was", stack.ball(BALL, 2), 2);
    }

    private static void aboutIs(String what, SnowBalls x, int ball, int... due) {
        for (int i = 0; i < due.length; i++) due(what + ", about " + i, x.about(ball, i), due[i]);
    }

    private static void promise9About() {
        SnowBalls x = on(NINES);
        due("9 no ball", x.about(0, 0), UNKNOWN);
        x.ball(BALL, 0);
        x.ball(DRUM, 6);
        x.ball(WET, 13);
        x.ball(SLUSH, 19);
        aboutIs("9 ball", x, 0, 0, 1, 0, NONE, 1, 1, NONE);
        aboutIs("9 drum", x, 1, 1, 1, 6, NONE, 1, 2, NONE);
        aboutIs("9 wet", x, 2, 3, 1, 13, NONE, 2, 1, NONE);
        aboutIs("9 slush", x, 3, 4, 1, 19, NONE, 2, 1, NONE);
        due("9 unknown", x.about(4, 0), UNKNOWN);
        due("9 unknown below", x.about(-1, 7), UNKNOWN);
        due("9 outside", x.about(0, 7), OUTSIDE);
        due("9 outside below", x.about(0, -1), OUTSIDE);
        x.roll(1, DOWN);
        due("9 column", x.about(1, 6), 0);
        x.roll(2, LEFT);
        due("9 others stick to nothing", x.about(2, 6), NONE);
        x.day(9);
        aboutIs("9 gone", x, 0, 0, 0, NONE, NONE, 0, 1, NONE);
        aboutIs("9 gone drum", x, 1, 1, 0, NONE, NONE, 0, 2);
        SnowBalls row = on(NINES);
        row.ball(DRUM, 6);
        row.roll(0, LEFT);
        due("9 row", row.about(0, 6), 1);
        SnowBalls powder = on(NINES);
        powder.ball(POWDER, 3);
        aboutIs("9 powder", powder, 0, 2, 1, 3, NONE, 1, 1, NONE);
        aboutIs("9 on another", stackOfTwo(), 1, 0, 1, 1, 0, 1, 1, NONE);
    }

    private static void promise10As() {
        SnowBalls x = on(FOURS);
        int[][] due = {{1, 0, 0, 0, 0}, {1, 1, 0, 0, 0}, {1, 0, 1, 0, 0}, {1, 0, 0, 1, 0}, {1, 0, 0, 1, 1}};
        for (int kind = 1; kind < 5; kind++) {
            int ball = x.ball(kind, kind);
            for (int as = 0; as < 5; as++) {
                due("10 " + kind + " as " + as, x.as(ball, as), due[kind][as] == 1 ? ball : NONE);
            }
        }
        due("10 unknown", x.as(4, 0), UNKNOWN);
        due("10 unknown first", x.as(-1, 5), UNKNOWN);
        due("10 outside", x.as(0, 5), OUTSIDE);
        due("10 outside below", x.as(0, -1), OUTSIDE);
        x.day(9);
        due("10 gone", x.as(3, WET), 3);
        SnowBalls y = on(FOURS);
        y.ball(BALL, 0);
        for (int as = 0; as < 5; as++) due("10 ball as " + as, y.as(0, as), due[0][as] == 1 ? 0 : NONE);
    }

    private static void promise11May() {
        SnowBalls x = on(FOURS);
        due("11 no ball", x.may(0, 0), UNKNOWN);
        x.ball(BALL, 0);
        x.ball(WET, 19);
        int[] first = {0, 1, 1, 0};
        int[] last = {1, 0, 0, 1};
        for (int side = 0; side < 4; side++) {
            due("11 first corner " + side, x.may(0, side), first[side]);
            due("11 last corner " + side, x.may(1, side), last[side]);
        }
        due("11 unknown", x.may(2, 9), UNKNOWN);
        due("11 outside", x.may(0, 4), OUTSIDE);
        due("11 outside below", x.may(0, -1), OUTSIDE);
        x.ball(BALL, 1);
        due("11 a ball there", x.may(0, RIGHT), 0);
        x.ball(BALL, 5);
        due("11 a ball below", x.may(0, DOWN), 0);
        due("11 rows have ends", x.may(3, LEFT), 0);
        x.strength(1);
        due("11 weighs two", x.may(1, UP), 0);
        due("11 weighs one", x.may(2, RIGHT), 1);
        x.strength(2);
        due("11 just so much", x.may(1, UP), 1);
        x.day(9);
        due("11 gone", x.may(2, RIGHT), 0);
        SnowBalls rowEnd = on(FOURS);
        rowEnd.ball(BALL, 4);
        rowEnd.ball(BALL, 15);
        due("11 right end", rowEnd.may(0, RIGHT), 0);
        due("11 last row", rowEnd.may(1, DOWN), 0);
        SnowBalls drum = on(FOURS);
        drum.ball(DRUM, 12);
        for (int side = 0; side < 4; side++) due("11 drum free", drum.may(0, side), 1);
        drum.roll(0, UP);
        for (int side = 0; side < 4; side++) due("11 drum in column", drum.may(0, side), 1 - side % 2);
        SnowBalls stack = stackOfTwo();
        due("11 bears one", stack.may(0, RIGHT), 0);
        due("11 stands on one", stack.may(1, RIGHT), 0);
    }

    private static void promise12Roll() {
        SnowBalls x = on(FOURS);
        due("12 unknown", x.roll(0, 4), UNKNOWN);
        x.ball(BALL, 12);
        due("12 outside", x.roll(0, 4), OUTSIDE);
        due("12 outside below", x.roll(0, -1), OUTSIDE);
        due("12 up", x.roll(0, UP), 2);
        due("12 there", x.about(0, 2), 7);
        due("12 right", x.roll(0, RIGHT), 3);
        due("12 there", x.about(0, 2), 8);
        due("12 down", x.roll(0, DOWN), 4);
        due("12 there", x.about(0, 2), 13);
        due("12 left", x.roll(0, LEFT), 5);
        due("12 there", x.about(0, 2), 12);
        SnowBalls first = on(FOURS);
        first.ball(BALL, 5);
        due("12 up to the first place", first.roll(0, UP), 2);
        due("12 the first place", first.about(0, 2), 0);
        due("12 depth", x.place(12, 0), 3);
        due("12 start", x.place(13, 0), 3);
        due("12 all", x.count(0), 76);
        SnowBalls edge = on(FOURS);
        edge.ball(BALL, 0);
        due("12 no place", edge.roll(0, UP), STATE);
        due("12 no place", edge.roll(0, LEFT), STATE);
        due("12 nothing changed", edge.about(0, 2), 0);
        SnowBalls green = on(GREEN);
        green.ball(WET, 0);
        due("12 on green", green.roll(0, RIGHT), 1);
        due("12 and moved", green.about(0, 2), 1);
        SnowBalls weak = on(FOURS);
        weak.ball(SLUSH, 0);
        weak.strength(1);
        due("12 too heavy", weak.roll(0, RIGHT), STATE);
        SnowBalls shallow = on("01000/00000/00000/00000;9");
        shallow.ball(DRUM, 0);
        due("12 all there is", shallow.roll(0, RIGHT), 2);
        due("12 green behind", shallow.place(1, 0), 0);
        due("12 drum sticks", shallow.roll(0, DOWN), STATE);
        due("12 drum goes on", shallow.roll(0, RIGHT), 2);
        due("12 drum comes back", shallow.roll(0, LEFT), 2);
    }

    private static int drumOn(char wetness) {
        SnowBalls x = on("99999/99999/99999/99999;" + wetness);
        x.ball(DRUM, 0);
        return x.roll(0, RIGHT);
    }

    /** A ball rolled along the whole lawn, row by row: its size behind each roll. */
    private static void grows(int kind, char wetness, int... sizes) {
        SnowBalls x = on("99999/99999/99999/99999;" + wetness);
        x.ball(kind, 0);
        x.strength(99);
        String path = "rrrrdlllldrrrrdllll";
        for (int i = 0; i < sizes.length; i++) {
            due("12 kind " + kind + " wetness " + wetness + " roll " + i, rolls(x, 0, path.substring(i, i + 1)), sizes[i]);
        }
    }

    private static void promise12Breadth() {
        due("12 drum wet", drumOn('4'), 3);
        due("12 drum dry", drumOn('3'), 2);
        grows(BALL, '4', 2, 3, 4, 5, 6, 7, 8, 10, 12, 14, 16, 19, 22, 25, 29, 33, 38, 43, 49);
        grows(BALL, '3', 2, 3, 4, 5, 6, 7, 8, 9, 10, 11, 12, 13, 14, 15, 16, 18, 20, 22, 24);
        grows(POWDER, '0', 2, 3, 4, 5, 6, 7, 8, 9, 10, 11, 12, 13, 14, 15, 16, 18, 20, 0, STATE);
        grows(POWDER, '9', 2, 3, 4, 5, 6, 7, 8, 9, 10, 11, 12, 13, 14, 15, 16, 18, 20, 0, STATE);
        grows(WET, '0', 2, 3, 4, 5, 6, 7, 8, 10, 12, 14, 16, 19, 22, 25, 29, 33, 38, 43, 49);
        grows(SLUSH, '3', 2, 3, 4, 5, 6, 7, 8, 10, 12, 14, 16, 19, 22, 25, 29, 33, 38, 43, 49);
        grows(DRUM, '9', 3, 5, 7, 9, STATE);
    }

    private static final String TO_TWENTY = "rrrrdlllldrrrrdll";

    private static void promise12Crumbles() {
        SnowBalls x = on(NINES);
        x.ball(POWDER, 0);
        due("12 twenty is whole", rolls(x, 0, TO_TWENTY), 20);
        due("12 its place", x.about(0, 2), 17);
        due("12 above twenty", x.roll(0, LEFT), 0);
        due("12 the snow is taken", x.place(16, 0), 7);
        due("12 on no place", x.about(0, 2), NONE);
        due("12 nobody there", x.place(16, 1), NONE);
        due("12 counted as gone", x.count(2), 1);
        due("12 no further", x.roll(0, LEFT), STATE);
        due("12 place is free", x.ball(BALL, 16), 1);
        SnowBalls odd = on("99999/99999/99999/99919;9");
        odd.ball(POWDER, 0);
        due("12 nineteen", rolls(odd, 0, TO_TWENTY), 19);
        due("12 each roll from nineteen crumbles it", odd.largest(0, 1, 0), 19);
        due("12 twenty-one is above twenty", odd.roll(0, LEFT), 0);
    }

    private static void promise13Lift() {
        SnowBalls x = on(NINES);
        x.strength(99);
        due("13 no ball", x.lift(0, 1), UNKNOWN);
        x.ball(BALL, 0);
        x.ball(BALL, 6);
        due("13 itself", x.lift(0, 0), UNKNOWN);
        due("13 unknown a", x.lift(2, 0), UNKNOWN);
        due("13 unknown b", x.lift(0, -1), UNKNOWN);
        due("13 same size across a corner", x.lift(0, 1), STATE);
        x.roll(1, LEFT);
        x.roll(1, RIGHT);
        due("13 across a corner", x.lift(0, 1), STATE);
        x.roll(1, LEFT);
        due("13 on a smaller one", x.lift(1, 0), STATE);
        due("13 lifted", x.lift(0, 1), 1 + 2);
        due("13 on it", x.about(0, 3), 1);
        due("13 there", x.about(0, 2), 5);
        due("13 where it was", x.place(0, 1), NONE);
        due("13 lifted twice", x.lift(0, 1), STATE);
        x.ball(BALL, 4);
        rolls(x, 2, "llll");
        due("13 a larger one stays below", x.about(2, 1), 5);
        due("13 what bears one is not lifted", x.lift(1, 2), STATE);
        due("13 nothing on one that bears one", x.lift(2, 1), STATE);
        SnowBalls same = on(NINES);
        same.ball(BALL, 0);
        same.ball(BALL, 1);
        due("13 same size", same.lift(0, 1), STATE);
        weightOfLifting();
        threeAreMost();
        SnowBalls gone = on(NINES);
        gone.ball(BALL, 0);
        gone.ball(BALL, 6);
        gone.roll(1, LEFT);
        gone.day(1);
        due("13 a gone one", gone.lift(0, 1), STATE);
        due("13 on a gone one", gone.lift(1, 0), STATE);
    }

    private static void weightOfLifting() {
        SnowBalls x = on(NINES);
        x.ball(WET, 1);
        x.ball(BALL, 4);
        rolls(x, 1, "ll");
        due("13 larger", x.about(1, 1), 3);
        x.strength(3);
        due("13 twice the weight is too much", x.lift(0, 1), STATE);
        x.strength(4);
        due("13 twice the weight is just so much", x.lift(0, 1), 1 + 1);
        SnowBalls y = on(NINES);
        y.ball(SLUSH, 0);
        y.roll(0, RIGHT);
        y.ball(BALL, 4);
        rolls(y, 1, "ll");
        y.strength(7);
        due("13 twice 4 is above 7", y.lift(0, 1), STATE);
        y.strength(8);
        due("13 twice 4 is 8", y.lift(0, 1), 1 + 1);
    }

    private static void threeAreMost() {
        SnowBalls x = on(NINES);
        x.ball(BALL, 5);
        rolls(x, 0, "rrr");
        x.ball(BALL, 1);
        rolls(x, 1, "rr");
        x.ball(BALL, 12);
        rolls(x, 2, "r");
        x.ball(BALL, 9);
        due("13 two", x.lift(1, 0), 2 + 1);
        due("13 not on one that bears one", x.lift(2, 0), STATE);
        due("13 three", x.lift(2, 1), 2 + 1 + 1);
        due("13 no fourth", x.lift(3, 2), STATE);
        due("13 nor by size alone", x.about(3, 1) < x.about(2, 1) ? 1 : 0, 1);
        SnowBalls y = on(NINES);
        y.ball(BALL, 5);
        rolls(y, 0, "rrr");
        y.ball(BALL, 1);
        rolls(y, 1, "rr");
        y.ball(BALL, 9);
        y.lift(1, 0);
        due("13 beside one that stands on another", y.lift(2, 1), 2 + 1 + 1);
        due("13 the place of the stack", y.about(2, 2), 8);
    }

    private static void promise14Day() {
        SnowBalls none = new SnowBalls();
        due("14 no lawn", none.day(1), STATE);
        due("14 outside ahead of state", none.day(10), OUTSIDE);
        SnowBalls x = on(FOURS);
        due("14 below", x.day(-1), OUTSIDE);
        due("14 above", x.day(10), OUTSIDE);
        due("14 no balls", x.day(9), 0);
        x.ball(BALL, 0);
        x.ball(DRUM, 5);
        x.ball(SLUSH, 10);
        x.ball(WET, 15);
        for (int i = 0; i < 3; i++) for (int ball = 0; ball < 4; ball++) x.roll(ball, RIGHT);
        due("14 ball", x.about(0, 1), 4);
        due("14 drum", x.about(1, 1), 7);
        due("14 no sun", x.day(0), 0);
        due("14 drum by no sun", x.about(1, 1), 6);
        due("14 others by no sun", x.about(0, 1) * 100 + x.about(2, 1) * 10 + x.about(3, 1), 444);
        due("14 slush twice", x.day(2), 1);
        due("14 ball", x.about(0, 1), 2);
        due("14 drum one more", x.about(1, 1), 3);
        due("14 slush", x.about(2, 1), 0);
        due("14 wet", x.about(3, 1), 2);
        due("14 days", x.count(6), 3);
        due("14 the last ones", x.day(2), 3);
        due("14 gone ones go no more", x.day(9), 0);
        due("14 gone", x.count(2), 4);
        due("14 depths stay", x.count(0), 80 - 3 - 6 - 3 - 3);
    }

    private static void meltsTo(int kind, int sun, int size) {
        SnowBalls x = on(NINES);
        x.ball(kind, 0);
        rolls(x, 0, kind == DRUM ? "rrr" : "rrrrdl");
        due("14 size of kind " + kind, x.about(0, 1), 7);
        x.day(sun);
        due("14 kind " + kind + " by sun " + sun, x.about(0, 1), size);
    }

    private static void promise14Kinds() {
        int[][] by = {{7, 6, 5, 4, 3, 2, 1, 0, 0, 0}, {6, 5, 4, 3, 2, 1, 0, 0, 0, 0}, {7, 6, 5, 4, 3, 2, 1, 0, 0, 0},
            {7, 6, 5, 4, 3, 2, 1, 0, 0, 0}, {7, 5, 3, 1, 0, 0, 0, 0, 0, 0}};
        for (int kind = 0; kind < 5; kind++) for (int sun = 0; sun < 10; sun++) meltsTo(kind, sun, by[kind][sun]);
    }

    private static void promise14Stacks() {
        SnowBalls x = on(NINES);
        x.ball(SLUSH, 0);
        rolls(x, 0, "rrrr");
        x.ball(BALL, 0);
        rolls(x, 1, "rrr");
        x.ball(BALL, 7);
        rolls(x, 2, "r");
        due("14 one", x.lift(1, 0), 2 + 2);
        due("14 third", x.roll(2, RIGHT), 3);
        due("14 two", x.lift(2, 1), 2 + 2 + 1);
        x.ball(BALL, 9);
        due("14 no fourth", x.lift(3, 2), STATE);
        due("14 no fourth below", x.lift(3, 0), STATE);
        due("14 the slush below goes, and the small one above", x.day(1), 1);
        due("14 three each", x.about(0, 1) * 100 + x.about(1, 1) * 10 + x.about(2, 1), 332);
        due("14 the slush goes", x.day(2), 2);
        aboutIs("14 the middle one is on the place", x, 1, 0, 1, 4, NONE);
        due("14 place", x.place(4, 1), 1);
        due("14 may be rolled again", x.may(1, LEFT), 1);
        SnowBalls y = on(NINES);
        y.ball(BALL, 0);
        rolls(y, 0, "rrrr");
        y.ball(SLUSH, 0);
        rolls(y, 1, "rrr");
        y.ball(BALL, 7);
        rolls(y, 2, "rr");
        y.strength(99);
        y.lift(1, 0);
        due("14 on the slush", y.lift(2, 1), 2 + 2 + 1);
        due("14 only the slush", y.day(2), 1);
        aboutIs("14 on what that stood on", y, 2, 0, 1, 4, 0);
        due("14 height of two", y.place(4, 2), 1 + 1);
    }

    private static void promise15Largest() {
        SnowBalls x = on(FOURS);
        due("15 no ball", x.largest(0, 7, 2), UNKNOWN);
        x.ball(BALL, 0);
        due("15 unknown", x.largest(-1, 0, 0), UNKNOWN);
        due("15 rolls below", x.largest(0, -1, 0), OUTSIDE);
        due("15 rolls above", x.largest(0, 7, 0), OUTSIDE);
        due("15 what below", x.largest(0, 1, -1), OUTSIDE);
        due("15 what above", x.largest(0, 1, 2), OUTSIDE);
        due("15 refused are not counted", x.count(10), 0);
        due("15 no rolls", x.largest(0, 0, 0), 1);
        due("15 no side", x.largest(0, 0, 1), NONE);
        due("15 three", x.largest(0, 3, 0), 4);
        due("15 the least side", x.largest(0, 3, 1), RIGHT);
        due("15 six", x.largest(0, 6, 0), 7);
        due("15 nothing changed", x.about(0, 1) * 100 + x.about(0, 2), 100);
        due("15 no snow taken", x.count(0), 80);
        SnowBalls far = on("00000/00000/90000/00000;9");
        far.ball(WET, 0);
        due("15 fewest rolls, then down", far.largest(0, 2, 1), DOWN);
        due("15 not by one", far.largest(0, 1, 1), NONE);
        due("15 back and there again", far.largest(0, 6, 0), 4);
        SnowBalls once = on("00000/00000/10000/00000;9");
        once.ball(BALL, 0);
        due("15 by a longer way no more", once.largest(0, 6, 0), 2);
        due("15 the shorter row, if its side is greater", once.largest(0, 6, 1), DOWN);
        SnowBalls drum = on("00090/00000/00000/90000;9");
        drum.ball(DRUM, 0);
        due("15 drum in the column", drum.largest(0, 3, 1), RIGHT);
        due("15 drum", drum.largest(0, 6, 0), 5);
        drum.roll(0, DOWN);
        due("15 drum sticks", drum.largest(0, 2, 1), DOWN);
        due("15 leaves its axis", drum.about(0, 6), 0);
        SnowBalls stack = stackOfTwo();
        due("15 in a stack", stack.largest(0, 6, 0) * 10 + stack.largest(1, 6, 0), 21);
        due("15 no side in a stack", stack.largest(1, 6, 1), NONE);
        stack.day(9);
        due("15 gone", stack.largest(0, 6, 0), STATE);
        due("15 outside ahead of state", stack.largest(0, 7, 0), OUTSIDE);
        SnowBalls weak = on(NINES);
        weak.ball(BALL, 0);
        weak.strength(2);
        due("15 too heavy to go on", weak.largest(0, 6, 0), 3);
    }

    private static void promise15Crumbles() {
        SnowBalls x = on(NINES);
        x.ball(POWDER, 0);
        rolls(x, 0, TO_TWENTY.substring(0, TO_TWENTY.length() - 1));
        due("15 powder", x.about(0, 1), 18);
        due("15 crumbles at last", x.largest(0, 6, 0), 20);
        due("15 by one roll", x.largest(0, 6, 1), UP);
        due("15 powder stays", x.about(0, 1), 18);
        due("16 crumbles ahead of it", x.comes(0, 15), NONE);
        due("16 one roll is whole", x.comes(0, 17), 1);
    }

    private static void promise16Comes() {
        SnowBalls x = on(FOURS);
        due("16 no ball", x.comes(0, 0), UNKNOWN);
        x.ball(BALL, 0);
        due("16 place below", x.comes(0, -1), UNKNOWN);
        due("16 place above", x.comes(0, 20), UNKNOWN);
        due("16 refused are not counted", x.count(10), 0);
        due("16 there", x.comes(0, 0), 0);
        due("16 beside", x.comes(0, 5), 1);
        due("16 six", x.comes(0, 18), 6);
        due("16 seven", x.comes(0, 19), NONE);
        due("16 nothing changed", x.about(0, 1) * 100 + x.about(0, 2), 100);
        due("16 counted", x.count(10), 4);
        x.ball(BALL, 1);
        due("16 one is there", x.comes(0, 1), NONE);
        due("16 around it", x.comes(0, 2), 4);
        x.strength(2);
        due("16 too heavy for the way", x.comes(0, 15), NONE);
        due("16 but so far", x.comes(0, 10), 2);
        SnowBalls drum = on(FOURS);
        drum.ball(DRUM, 0);
        due("16 drum", drum.comes(0, 15), 3);
        due("16 no corner for a drum", drum.comes(0, 6), NONE);
        SnowBalls stack = stackOfTwo();
        due("16 above it", stack.comes(1, 1), 0);
        due("16 not out of it", stack.comes(1, 2), NONE);
        stack.day(9);
        due("16 gone", stack.comes(0, 0), STATE);
        due("16 unknown ahead of state", stack.comes(0, 20), UNKNOWN);
    }

    private static void searchesTogether() {
        SnowBalls x = on(GREEN);
        x.ball(BALL, 0);
        x.image();
        for (int i = 0; i < 30; i++) {
            due("15 again", x.largest(0, 1, 0), 1);
            due("16 again", x.comes(0, 0), 0);
        }
        due("15 counted together", x.count(10), 60);
        due("15 sixty were done", x.largest(0, 1, 0), STATE);
        due("16 sixty were done", x.comes(0, 0), STATE);
        due("16 unknown first", x.comes(0, 20), UNKNOWN);
        due("15 outside first", x.largest(0, 1, 2), OUTSIDE);
        x.restore();
        due("15 whatever is restored", x.largest(0, 1, 0), STATE);
        type(x, GREEN);
        x.lawn();
        x.ball(BALL, 0);
        due("16 whatever is read", x.comes(0, 0), STATE);
        due("15 still sixty", x.count(10), 60);
        due("19 counts for itself", x.book(BALL, 5, 0, 1), 1);
    }

    private static void promise17Highest() {
        SnowBalls x = new SnowBalls();
        due("17 no lawn", x.highest(0), NONE);
        due("17 below", x.highest(-1), OUTSIDE);
        due("17 above", x.highest(2), OUTSIDE);
        x = on(NINES);
        x.ball(BALL, 0);
        x.ball(BALL, 5);
        x.ball(BALL, 10);
        due("17 of one size", x.highest(1), NONE);
        x.strength(99);
        rolls(x, 0, "r");
        rolls(x, 1, "rrr");
        due("17 2, 4, 1", x.highest(0), 1 + 2 + 1);
        due("17 all three", x.highest(1), 7);
        x.ball(BALL, 15);
        rolls(x, 3, "rr");
        due("17 of like ones the least", x.highest(1), 7);
        due("17 three of four", x.highest(0), 4);
        x.strength(3);
        due("17 with a strength of 3", x.highest(0), NONE);
        x.strength(4);
        due("17 with a strength of 4 the largest, 2 and 1", x.highest(1), 7);
        x.strength(5);
        rolls(x, 3, "rr");
        due("17 with size 5 instead of 4", x.highest(1), 7);
        x.day(1);
        x.strength(6);
        due("17 one gone", x.count(2), 1);
        due("17 without the gone one", x.highest(1), 11);
        due("17 3, 1, 4", x.highest(0), 1 + 1 + 2);
        SnowBalls later = on(NINES);
        later.strength(99);
        for (int i = 0; i < 4; i++) later.ball(BALL, 5 * i);
        rolls(later, 1, "r");
        rolls(later, 2, "rr");
        rolls(later, 3, "rrr");
        due("17 the higher one has greater bits", later.highest(1), 11);
        due("17 its height", later.highest(0), 1 + 1 + 2);
        later.roll(2, RIGHT);
        later.roll(0, RIGHT);
        due("17 4 and 4 are of one size", later.highest(1), NONE);
        SnowBalls wet = on(NINES);
        wet.ball(WET, 0);
        wet.ball(WET, 5);
        wet.ball(BALL, 10);
        rolls(wet, 0, "r");
        rolls(wet, 1, "rr");
        wet.strength(7);
        due("17 the second one weighs 4", wet.highest(0), NONE);
        wet.strength(8);
        due("17 twice that is 8", wet.highest(1), 7);
        SnowBalls stack = stackOfTwo();
        stack.ball(BALL, 19);
        rolls(stack, 2, "ll");
        due("17 whoever stands where", stack.highest(1), 7);
    }

    private static void promise18Lasts() {
        SnowBalls x = new SnowBalls();
        due("18 no ball", x.lasts(1), NONE);
        due("18 below", x.lasts(0), OUTSIDE);
        due("18 above", x.lasts(10), OUTSIDE);
        x = on(NINES);
        x.ball(BALL, 0);
        rolls(x, 0, "rrr");
        due("18 ball by 1", x.lasts(1), 4);
        due("18 ball by 2", x.lasts(2), 2);
        due("18 ball by 3", x.lasts(3), 2);
        due("18 ball by 9", x.lasts(9), 1);
        x.ball(DRUM, 10);
        rolls(x, 1, "rr");
        due("18 drum of 5 by 1", x.lasts(1), 3);
        x.ball(SLUSH, 15);
        rolls(x, 2, "rr");
        due("18 slush of 3 by 1", x.lasts(1), 2);
        due("18 changes nothing", x.count(7), 4 + 5 + 3);
        x.day(3);
        due("18 gone ones last no more", x.lasts(1), 1);
        x.day(9);
        due("18 all gone", x.lasts(1), NONE);
    }

    private static void promise19Book() {
        SnowBalls none = new SnowBalls();
        due("19 no lawn", none.book(BALL, 0, 0, 1), STATE);
        due("19 kind first", none.book(5, 20, 6, 100), OUTSIDE);
        due("19 then place", none.book(BALL, 20, 6, 100), UNKNOWN);
        due("19 then rolls", none.book(BALL, 0, 6, 0), OUTSIDE);
        SnowBalls x = on(FOURS);
        due("19 kind below", x.book(-1, 0, 0, 1), OUTSIDE);
        due("19 place below", x.book(BALL, -1, 0, 1), UNKNOWN);
        due("19 rolls below", x.book(BALL, 0, -1, 1), OUTSIDE);
        due("19 size below", x.book(BALL, 0, 0, -1), OUTSIDE);
        due("19 size above", x.book(BALL, 0, 0, 100), OUTSIDE);
        due("19 refused are not counted", x.count(11), 0);
        due("19 greatest size", x.book(BALL, 0, 0, 99), 0);
        due("19 no rolls", x.book(BALL, 0, 0, 1), 1);
        due("19 gone by no rolls", x.book(POWDER, 0, 0, 0), 0);
        due("19 one from a corner", x.book(BALL, 0, 1, 2), 2);
        due("19 one from the middle", x.book(BALL, 12, 1, 2), 4);
        due("19 two from the middle", x.book(BALL, 12, 2, 3), 15);
        due("19 a drum keeps its row", x.book(DRUM, 12, 2, 5), 7);
        due("19 nothing stays", x.count(1), 0);
        due("19 no snow taken", x.count(0), 80);
        due("19 counted", x.count(11), 7);
        x.ball(BALL, 12);
        due("19 who stands there bars the way back", x.book(BALL, 12, 2, 3), 15 - 4);
        due("19 others bar the way", x.book(BALL, 7, 1, 2), 3);
        SnowBalls full = on(FOURS);
        for (int i = 0; i < 4; i++) full.ball(BALL, i);
        due("19 a fifth one", full.book(BALL, 19, 1, 2), 2);
        due("19 four stay", full.count(1), 4);
        full.strength(1);
        due("19 too heavy", full.book(WET, 19, 1, 2), 0);
        due("19 just so heavy", full.book(BALL, 19, 1, 2), 2);
        due("19 then too heavy", full.book(BALL, 19, 2, 3), 0);
        SnowBalls steps = on("10000/20000/00000/00000;9");
        due("19 by way of 1 or of 2", steps.book(WET, 0, 2, 2), 3);
        due("19 by way of none", steps.book(WET, 0, 2, 1), 2);
    }

    private static void promise19Limit() {
        SnowBalls x = on(FOURS);
        x.image();
        for (int i = 0; i < 60; i++) due("19 again", x.book(BALL, 0, 0, 1), 1);
        due("19 sixty were done", x.book(BALL, 0, 0, 1), STATE);
        due("19 outside first", x.book(BALL, 0, 0, 100), OUTSIDE);
        x.restore();
        due("19 whatever is restored", x.book(BALL, 0, 0, 1), STATE);
        type(x, FOURS);
        x.lawn();
        due("19 whatever is read", x.book(BALL, 0, 0, 1), STATE);
        due("19 still sixty", x.count(11), 60);
        x.ball(BALL, 0);
        due("15 counts for itself", x.largest(0, 0, 0), 1);
    }

    private static void promise20Games() {
        SnowBalls x = new SnowBalls();
        due("20 no lawn", x.games(1, 0, 0), STATE);
        due("20 outside ahead of state", x.games(0, 0, 0), OUTSIDE);
        x = on(FOURS);
        due("20 no balls", x.games(1, 0, 0), STATE);
        x.ball(BALL, 12);
        due("20 times below", x.games(0, 0, 0), OUTSIDE);
        due("20 times above", x.games(61, 0, 0), OUTSIDE);
        due("20 seed below", x.games(1, -1, 0), OUTSIDE);
        due("20 what below", x.games(1, 0, -1), OUTSIDE);
        due("20 what above", x.games(1, 0, 4), OUTSIDE);
        long seed = 12345;
        due("20 the draw of a ball comes first", x.games(1, 0, 3), (1103515245L * seed + 12345L) % (1L << 31));
        due("20 from the middle all sides are open", x.games(1, 0, 1), 1);
        due("20 sizes", x.games(1, 0, 0), 2);
        due("20 depths", x.games(1, 0, 2), 79);
        due("20 the greatest seed", x.games(1, MAX, 3), 288979989);
        due("20 as it would be", x.about(0, 2) * 100 + x.about(0, 1), 1201);
        x.day(9);
        due("20 gone ones are drawn", x.games(60, 7, 1), 0);
        for (int start : new int[] {0, 1, 99, 4711, 123456789, MAX}) gamesAsPlayed(start);
    }

    /** What games() tells is what comes of it when the same draws are rolled in truth. */
    private static void gamesAsPlayed(int start) {
        SnowBalls x = on(STEPS);
        x.ball(BALL, 7);
        x.ball(DRUM, 13);
        x.ball(SLUSH, 4);
        x.image();
        long[] seed = {start};
        int rolled = 0;
        for (int times = 1; times <= 60; times++) {
            int ball = drawn(seed, 3);
            if (x.roll(ball, drawn(seed, 4)) != STATE) rolled++;
            if (times % 12 != 0) continue;
            int sizes = x.count(7);
            int depths = x.count(0);
            SnowBalls y = on(STEPS);
            y.ball(BALL, 7);
            y.ball(DRUM, 13);
            y.ball(SLUSH, 4);
            due("20 sizes of " + start, y.games(times, start, 0), sizes);
            due("20 rolls of " + start, y.games(times, start, 1), rolled);
            due("20 depths of " + start, y.games(times, start, 2), depths);
            due("20 seed of " + start, y.games(times, start, 3), seed[0]);
            due("20 nothing changed", y.count(0), 90);
        }
    }

    private static int drawn(long[] seed, int many) {
        seed[0] = (seed[0] * 1103515245L + 12345L) & 0x7fffffffL;
        return (int) ((seed[0] >> 16) % many);
    }

    private static void promise21And22Image() {
        SnowBalls x = new SnowBalls();
        due("21 no lawn", x.image(), STATE);
        due("22 no lawn", x.restore(), STATE);
        x = on(FOURS);
        due("22 none was kept", x.restore(), STATE);
        x.ball(DRUM, 12);
        x.roll(0, UP);
        x.strength(33);
        x.day(0);
        due("21 one ball", x.image(), 1);
        long kept = x.digest();
        x.roll(0, UP);
        x.ball(BALL, 0);
        x.strength(44);
        x.day(1);
        due("22 one ball", x.restore(), 1);
        due("22 all is as it was", x.digest(), kept);
        due("22 the later one is gone", x.about(1, 0), UNKNOWN);
        due("22 its place is free", x.ball(BALL, 0), 1);
        due("22 again", x.restore(), 1);
        x.ball(BALL, 19);
        due("21 the latest", x.image(), 2);
        x.day(9);
        due("22 the latest", x.restore(), 2);
        due("22 none is gone", x.count(2), 0);
        type(x, "444");
        due("22 restored", x.restore(), 2);
        due("22 the page stays", x.count(8), 3);
        due("22 no lawn yet", x.lawn(), STATE);
        due("22 not read, not gone", x.restore(), 2);
        x.blank();
        type(x, FOURS);
        x.lawn();
        due("22 a lawn of the same text", x.restore(), STATE);
        SnowBalls slots = stackOfTwo();
        slots.ball(DRUM, 19);
        slots.roll(2, UP);
        type(slots, NINES);
        slots.lawn();
        slots.image();
        for (int i = 0; i < 3; i++) slots.ball(DRUM, i);
        due("22 a new one stands on no other", slots.about(1, 3), NONE);
        due("22 a new one sticks to nothing", slots.about(2, 6), NONE);
        due("22 three since", slots.restore(), 0);
        due("21 of the new one", x.image(), 0);
        due("22 of the new one", x.restore(), 0);
    }

    private static void promise23Count() {
        SnowBalls x = on(STEPS);
        due("23 below", x.count(-1), OUTSIDE);
        due("23 above", x.count(12), OUTSIDE);
        due("23 far above", x.count(MAX), OUTSIDE);
        x.ball(BALL, 0);
        x.ball(SLUSH, 19);
        x.roll(0, RIGHT);
        x.strength(50);
        type(x, "4/");
        x.largest(0, 1, 0);
        x.comes(1, 3);
        x.book(BALL, 5, 1, 2);
        x.day(1);
        long[] due = {89, 2, 1, 3, 4, 50, 1, 1, 2, 1, 2, 1};
        for (int what = 0; what < 12; what++) due("23 count " + what, x.count(what), due[what]);
    }

    private static void promise24Digest() {
        due("24 new", new SnowBalls().digest(), digestOf(new SnowBalls(), ""));
        SnowBalls page = new SnowBalls();
        type(page, "4~ ");
        due("24 the page", page.digest(), digestOf(page, "4~ "));
        SnowBalls x = stackOfTwo();
        x.ball(DRUM, 7);
        x.ball(SLUSH, 19);
        x.roll(2, DOWN);
        type(x, "99");
        due("24 a lawn", x.digest(), digestOf(x, "99"));
        SnowBalls lasting = on(NINES);
        lasting.ball(BALL, 0);
        rolls(lasting, 0, "rrrr");
        due("24 lasts of 1", lasting.digest(), digestOf(lasting, ""));
        x.day(2);
        x.comes(0, 0);
        due("24 some gone", x.digest(), digestOf(x, "99"));
        due("24 changes nothing", x.digest(), digestOf(x, "99"));
    }

    private static long digestOf(SnowBalls x, String page) {
        long h = 727;
        if (x.count(9) > 0) {
            for (int p = 0; p < 20; p++) for (int w = 0; w < 3; w++) h = h * 31 + x.place(p, w);
        }
        for (int b = 0; b < x.count(1); b++) {
            for (int w = 0; w < 7; w++) h = h * 31 + x.about(b, w);
            for (int s = 0; s < 4; s++) h = h * 31 + x.may(b, s);
        }
        h = h * 31 + x.highest(0);
        h = h * 31 + x.highest(1);
        h = h * 31 + x.lasts(1);
        for (int i = 0; i < page.length(); i++) h = h * 31 + page.charAt(i);
        for (int w = 0; w < 12; w++) h = h * 31 + x.count(w);
        return h;
    }
}
