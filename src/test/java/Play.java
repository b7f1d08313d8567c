/** What the tests do with an object over and over: type a page, read a lawn, roll along a way. */
final class Play {
    static final int NONE = SnowBalls.NONE, UNKNOWN = SnowBalls.UNKNOWN, OUTSIDE = SnowBalls.OUTSIDE;
    static final int STATE = SnowBalls.STATE, FULL = SnowBalls.FULL;
    static final int BALL = 0, DRUM = 1, POWDER = 2, WET = 3, SLUSH = 4;
    static final int UP = 0, RIGHT = 1, DOWN = 2, LEFT = 3;
    static final int MAX = Integer.MAX_VALUE, MIN = Integer.MIN_VALUE;
    static final String NINES = "99999/99999/99999/99999;9";
    static final String FOURS = "44444/44444/44444/44444;4";
    static final String GREEN = "00000/00000/00000/00000;9";
    static final String STEPS = "01234/56789/01234/56789;4";
    /** From place 0 over the whole lawn, row by row, to place 15; and the same way back. */
    static final String ALONG = "rrrrdlllldrrrrdllll", BACK = "rrrrullllurrrrullll";
    /** By so much of ALONG a POWDER on a lawn of nines comes to SIZE 20, on place 17. */
    static final String TO_TWENTY = "rrrrdlllldrrrrdll";

    private Play() {
    }

    static void type(SnowBalls x, String text) {
        for (int i = 0; i < text.length(); i++) x.letter(text.charAt(i));
    }

    static int read(SnowBalls x, String lawn) {
        type(x, lawn);
        return x.lawn();
    }

    static SnowBalls on(String lawn) {
        SnowBalls x = new SnowBalls();
        read(x, lawn);
        return x;
    }

    static SnowBalls nines(int wetness) {
        return on("99999/99999/99999/99999;" + wetness);
    }

    static SnowBalls withBalls(String lawn, int kind, int... places) {
        SnowBalls x = on(lawn);
        for (int place : places) x.ball(kind, place);
        return x;
    }

    /** Rolls a ball by sides told as letters of "urdl": the last answer. */
    static int rolls(SnowBalls x, int ball, String sides) {
        int last = NONE;
        for (int i = 0; i < sides.length(); i++) last = x.roll(ball, "urdl".indexOf(sides.charAt(i)));
        return last;
    }

    /** A new ball, rolled along a way: its number. */
    static int rolled(SnowBalls x, int kind, int place, String sides) {
        int ball = x.ball(kind, place);
        rolls(x, ball, sides);
        return ball;
    }

    /** Melts a ball, day by day, until it is no larger than so much: its size then. */
    static int meltedTo(SnowBalls x, int ball, int size) {
        int sun = x.about(ball, 0) == DRUM ? 0 : 1;
        for (int day = 0; day < 200 && x.about(ball, 1) > size; day++) x.day(sun);
        return x.about(ball, 1);
    }

    static int besides(int place, int side) {
        int row = place / 5 + (side == UP ? -1 : side == DOWN ? 1 : 0);
        int column = place % 5 + (side == LEFT ? -1 : side == RIGHT ? 1 : 0);
        return row < 0 || row > 3 || column < 0 || column > 4 ? NONE : row * 5 + column;
    }

    static int apart(int one, int other) {
        return Math.abs(one / 5 - other / 5) + Math.abs(one % 5 - other % 5);
    }

    static int root(int size) {
        int root = 0;
        while ((root + 1) * (root + 1) <= size) root++;
        return root;
    }

    /** Ball 0 (size 2) on place 1, ball 1 (size 1) lifted on it. */
    static SnowBalls stackOfTwo() {
        SnowBalls x = on(NINES);
        rolled(x, BALL, 0, "r");
        x.ball(BALL, 2);
        x.lift(1, 0);
        return x;
    }

    /** What the document's digest is of what all other calls tell, and of the letters of the page. */
    static long digestOf(SnowBalls x, String page) {
        long h = 727;
        if (x.count(9) > 0) {
            for (int place = 0; place < 20; place++) for (int what = 0; what < 3; what++) h = 31 * h + x.place(place, what);
        }
        for (int ball = 0; ball < x.count(1); ball++) {
            for (int what = 0; what < 7; what++) h = 31 * h + x.about(ball, what);
            for (int side = 0; side < 4; side++) h = 31 * h + x.may(ball, side);
        }
        h = 31 * h + x.highest(0);
        h = 31 * h + x.highest(1);
        h = 31 * h + x.lasts(1);
        for (int i = 0; i < page.length(); i++) h = 31 * h + page.charAt(i);
        for (int what = 0; what < 12; what++) h = 31 * h + x.count(what);
        return h;
    }
}
