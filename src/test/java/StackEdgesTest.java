/** The edges of lifting and of sun: a test for each sentence that names one (terms 1, promises 13 and 14). */
public final class StackEdgesTest {
    private static final Check CHECK = new Check();
    private static final String[] KINDS = {"BALL", "DRUM", "POWDER", "WET", "SLUSH"};
    /** What a stack is built of: who is the lowest, the middle, the highest one by number. */
    private static final int[][] ORDERS = {{0, 1, 2}, {0, 2, 1}, {1, 0, 2}, {1, 2, 0}, {2, 0, 1}, {2, 1, 0}};

    public static void main(String[] args) {
        CHECK.sentence("13 UNKNOWN: a, b, or they are the same", StackEdgesTest::liftOfNobody);
        CHECK.sentence("1 LIFTING a BALL on another one: it stands on no other BALL", StackEdgesTest::upperOneStays);
        CHECK.sentence("1 and none on it", StackEdgesTest::lowerOneStays);
        CHECK.sentence("1 twice what it WEIGHS is no more than STRENGTH", StackEdgesTest::justStrongEnough);
        CHECK.sentence("1 the other one is on a PLACE beside its own", StackEdgesTest::onlyFromBeside);
        CHECK.sentence("1 (or on a BALL there)", StackEdgesTest::onAnUpperOne);
        CHECK.sentence("1 with none on it", StackEdgesTest::notOnALowerOne);
        CHECK.sentence("1 and larger", StackEdgesTest::onlyOnALargerOne);
        CHECK.sentence("1 no more than three stand one on the other", StackEdgesTest::noFourth);
        CHECK.sentence("13 HEIGHT there then", StackEdgesTest::heightThere);
        CHECK.sentence("13 STATE: it can't be", StackEdgesTest::goneOnesAreNotLifted);
        CHECK.sentence("1 A DAY of SUN (0 to 9)", StackEdgesTest::leastAndGreatestSun);
        CHECK.sentence("14 OUTSIDE: sun (0 to 9)", StackEdgesTest::sunsOutside);
        CHECK.sentence("14 STATE: no LAWN", StackEdgesTest::noDayWithoutLawn);
        CHECK.sentence("1 each BALL loses so much of SIZE", () -> melts(Play.BALL));
        CHECK.sentence("1 a DRUM 1 more (by SUN 0, too)", StackEdgesTest::drumsMelt);
        CHECK.sentence("1 a SLUSH twice as much", () -> melts(Play.SLUSH));
        CHECK.sentence("1 All are BALLS; a SLUSH is WET, too", StackEdgesTest::othersMelt);
        CHECK.sentence("1 what has no SIZE left is GONE", StackEdgesTest::noSizeLeft);
        CHECK.sentence("1 what stood on it stands on what that stood on (or on the PLACE)", StackEdgesTest::stacksFall);
        CHECK.sentence("1 A BALL that is GONE is on no PLACE", StackEdgesTest::goneIsOnNoPlace);
        CHECK.sentence("14 how many BALLS are GONE by it", StackEdgesTest::goneByThisDay);
        CHECK.end();
    }

    private static void due(String what, long got, long want) {
        CHECK.due(what, got, want);
    }

    private static void liftOfNobody() {
        SnowBalls x = Play.withBalls(Play.NINES, Play.BALL, 0);
        due("there is but one", x.lift(0, 1), Play.UNKNOWN);
        due("itself", x.lift(0, 0), Play.UNKNOWN);
        Play.rolled(x, Play.BALL, 2, "l");
        for (int ball : new int[] {-1, 2, 4, Play.MIN, Play.MAX}) {
            due("a is " + ball, x.lift(ball, 1), Play.UNKNOWN);
            due("b is " + ball, x.lift(0, ball), Play.UNKNOWN);
            due("both are " + ball, x.lift(ball, ball), Play.UNKNOWN);
        }
        due("the larger one on itself", x.lift(1, 1), Play.UNKNOWN);
        due("those that are", x.lift(0, 1), 2);
        SnowBalls gone = Play.withBalls(Play.FOURS, Play.BALL, 0);
        gone.day(1);
        due("a gone one on itself", gone.lift(0, 0), Play.UNKNOWN);
    }

    private static void upperOneStays() {
        SnowBalls x = Play.stackOfTwo();
        Play.rolled(x, Play.BALL, 8, "ll");
        due("a larger one beside", x.about(2, 1), 3);
        due("the upper one is not lifted over", x.lift(1, 2), Play.STATE);
        due("it stays", x.about(1, 3), 0);
    }

    private static void lowerOneStays() {
        SnowBalls x = Play.stackOfTwo();
        Play.rolled(x, Play.BALL, 8, "ll");
        due("the lower one is not lifted", x.lift(0, 2), Play.STATE);
        x.day(1);
        due("without the upper one it is", x.lift(0, 2), 1 + 1);
        due("on the larger one", x.about(0, 3), 2);
    }

    /** The other one is as heavy as it likes: only what is lifted counts. */
    private static void justStrongEnough() {
        int[] twice = {2, 2, 2, 4, 4};
        for (int kind = 0; kind < 5; kind++) {
            SnowBalls x = Play.withBalls(Play.NINES, kind, 0);
            Play.rolled(x, Play.SLUSH, 5, "rlrl");
            x.strength(twice[kind] - 1);
            due(KINDS[kind] + " of 1 by one less", x.lift(0, 1), Play.STATE);
            x.strength(twice[kind]);
            due(KINDS[kind] + " of 1 by just so much", x.lift(0, 1), 2 + 1);
        }
        SnowBalls wet = Play.on(Play.NINES);
        Play.rolled(wet, Play.WET, 1, "l");
        Play.rolled(wet, Play.BALL, 5, "rl");
        wet.strength(7);
        due("a WET of 2 by 7", wet.lift(0, 1), Play.STATE);
        wet.strength(8);
        due("a WET of 2 by 8", wet.lift(0, 1), 1 + 1);
        SnowBalls ball = Play.on(Play.NINES);
        Play.rolled(ball, Play.BALL, 0, "rlrlrl");
        Play.rolled(ball, Play.BALL, 6, "lrlrlrl");
        ball.strength(13);
        due("a BALL of 7 by 13", ball.lift(0, 1), Play.STATE);
        ball.strength(14);
        due("a BALL of 7 by 14", ball.lift(0, 1), 2 + 2);
    }

    /** From each place on each other one: over an edge, a corner, or the end of a row nothing is lifted. */
    private static void onlyFromBeside() {
        for (int to = 0; to < 20; to++) {
            for (int from = 0; from < 20; from++) {
                if (from == to) continue;
                SnowBalls x = Play.on(Play.NINES);
                if (to % 5 < 4) Play.rolled(x, Play.BALL, to + 1, "l");
                else Play.rolled(x, Play.BALL, to - 1, "r");
                x.ball(Play.BALL, from);
                boolean beside = Play.apart(from, to) == 1;
                due("from " + from + " on " + to, x.lift(1, 0), beside ? 2 : Play.STATE);
                due("its place, from " + from + " on " + to, x.about(1, 2), beside ? to : from);
            }
        }
    }

    /** Four of SIZES 4, 3, 2, 1: the largest on place 8, the others beside it. */
    private static SnowBalls fourAround() {
        SnowBalls x = Play.on(Play.NINES);
        Play.rolled(x, Play.BALL, 5, "rrr");
        Play.rolled(x, Play.BALL, 1, "rr");
        Play.rolled(x, Play.BALL, 12, "r");
        x.ball(Play.BALL, 9);
        return x;
    }

    private static void onAnUpperOne() {
        SnowBalls x = fourAround();
        due("two", x.lift(1, 0), 2 + 1);
        due("on the upper one", x.lift(2, 1), 2 + 1 + 1);
        due("it stands on that", x.about(2, 3), 1);
        due("above the place", x.about(2, 2), 8);
        SnowBalls far = Play.on(Play.NINES);
        Play.rolled(far, Play.BALL, 5, "rrr");
        Play.rolled(far, Play.BALL, 1, "rr");
        far.lift(1, 0);
        far.ball(Play.BALL, 2);
        due("not from beside the place that the upper one came from", far.lift(2, 1), Play.STATE);
    }

    private static void notOnALowerOne() {
        SnowBalls x = fourAround();
        x.lift(1, 0);
        due("the lower one bears one", x.lift(2, 0), Play.STATE);
        due("it stays", x.about(2, 2), 13);
        due("so does the next", x.lift(3, 0), Play.STATE);
        x.lift(2, 1);
        due("the middle one bears one", x.lift(3, 1), Play.STATE);
    }

    private static void onlyOnALargerOne() {
        String[] ways = {"", "r", "rl", "rlr"};
        for (int a = 1; a <= 4; a++) {
            for (int b = 1; b <= 4; b++) {
                SnowBalls x = Play.on(Play.NINES);
                Play.rolled(x, Play.BALL, a % 2 == 0 ? 0 : 1, ways[a - 1]);
                Play.rolled(x, Play.BALL, b % 2 == 0 ? 5 : 6, ways[b - 1]);
                due("sizes", x.about(0, 1) * 10 + x.about(1, 1), a * 10 + b);
                due(a + " on " + b, x.lift(0, 1), a < b ? Play.root(a) + Play.root(b) : Play.STATE);
            }
        }
        SnowBalls heavy = Play.on(Play.NINES);
        Play.rolled(heavy, Play.WET, 0, "r");
        Play.rolled(heavy, Play.BALL, 5, "rlr");
        due("a WET of 2 weighs 4, as a BALL of 4 does, and is smaller", heavy.lift(0, 1), 1 + 2);
        SnowBalls light = Play.on(Play.NINES);
        Play.rolled(light, Play.BALL, 0, "r");
        Play.rolled(light, Play.WET, 5, "r");
        due("a WET of 2 weighs more than a BALL of 2, and is no larger", light.lift(0, 1), Play.STATE);
    }

    private static void noFourth() {
        SnowBalls x = fourAround();
        x.lift(1, 0);
        due("a third", x.lift(2, 1), 4);
        due("smaller than the third", x.about(3, 1) < x.about(2, 1) ? 1 : 0, 1);
        due("no fourth", x.lift(3, 2), Play.STATE);
        due("it stays", x.about(3, 2), 9);
        due("three of them", x.place(8, 2), 4);
    }

    private static void heightThere() {
        SnowBalls x = Play.on(Play.NINES);
        x.strength(99);
        Play.rolled(x, Play.BALL, 0, "rrrrdlllld");
        due("14", x.about(0, 1), 14);
        Play.rolled(x, Play.BALL, 12, "rlrlrlrlr");
        Play.rolls(x, 1, "ll");
        due("HEIGHT as place() tells it", x.lift(0, 1) - x.place(11, 2), 0);
        due("of both", x.place(11, 2), Play.root(x.about(0, 1)) + Play.root(x.about(1, 1)));
        due("none where it was", x.place(10, 2), 0);
    }

    private static void goneOnesAreNotLifted() {
        SnowBalls x = Play.on(Play.NINES);
        Play.rolled(x, Play.BALL, 0, "r");
        x.ball(Play.BALL, 2);
        x.day(1);
        due("a gone one", x.lift(1, 0), Play.STATE);
        due("on a gone one", x.lift(0, 1), Play.STATE);
        x.day(1);
        due("a gone one on a gone one", x.lift(0, 1), Play.STATE);
        due("of none is a height", x.place(1, 2), 0);
    }

    private static void leastAndGreatestSun() {
        SnowBalls x = Play.withBalls(Play.FOURS, Play.BALL, 0);
        due("0", x.day(0), 0);
        due("a day, too", x.count(6), 1);
        due("it stays", x.about(0, 1), 1);
        due("9", x.day(9), 1);
        due("two days", x.count(6), 2);
        due("it is gone", x.about(0, 1), 0);
    }

    private static void sunsOutside() {
        SnowBalls x = Play.withBalls(Play.FOURS, Play.DRUM, 0);
        for (int sun : new int[] {-1, 10, Play.MIN, Play.MAX}) due("sun " + sun, x.day(sun), Play.OUTSIDE);
        due("no day", x.count(6), 0);
        due("nothing melts", x.about(0, 1), 1);
    }

    private static void noDayWithoutLawn() {
        SnowBalls x = new SnowBalls();
        due("0", x.day(0), Play.STATE);
        due("9", x.day(9), Play.STATE);
        due("no day", x.count(6), 0);
        due("a lawn without balls", Play.on(Play.FOURS).day(9), 0);
    }

    /** One of each size from 1 to 7, by each sun. */
    private static void melts(int kind) {
        for (int size = 1; size <= 7; size++) {
            for (int sun = 0; sun <= 9; sun++) {
                SnowBalls x = Play.withBalls(Play.NINES, kind, 0);
                Play.rolls(x, 0, "rrrrdl".substring(0, size - 1));
                int loss = kind == Play.SLUSH ? 2 * sun : sun;
                String what = KINDS[kind] + " of " + size + " by " + sun;
                due("how many, " + what, x.day(sun), loss >= size ? 1 : 0);
                due(what, x.about(0, 1), Math.max(0, size - loss));
            }
        }
    }

    private static void drumsMelt() {
        for (int sun = 0; sun <= 9; sun++) {
            SnowBalls x = Play.withBalls(Play.NINES, Play.DRUM, 0);
            due("nine", Play.rolls(x, 0, "rrrr"), 9);
            due("gone of 9 by " + sun, x.day(sun), sun + 1 >= 9 ? 1 : 0);
            due("9 by " + sun, x.about(0, 1), Math.max(0, 9 - sun - 1));
        }
        SnowBalls x = Play.withBalls(Play.FOURS, Play.DRUM, 0);
        due("1 by 0", x.day(0), 1);
        due("gone", x.about(0, 1), 0);
    }

    private static void othersMelt() {
        melts(Play.POWDER);
        melts(Play.WET);
    }

    private static void noSizeLeft() {
        SnowBalls x = Play.on(Play.NINES);
        for (int i = 0; i < 3; i++) Play.rolled(x, Play.BALL, 5 * i, "rrr".substring(0, i + 1));
        due("2 is gone by 3, and so is 3, and 4 is not", x.day(3), 2);
        due("sizes", x.about(0, 1) * 100 + x.about(1, 1) * 10 + x.about(2, 1), 1);
        due("counted", x.count(2), 2);
    }

    /** Lowest on place 8 of SIZE 6, then 5, then 4; each of them a SLUSH if its bit is set, else a BALL. */
    private static SnowBalls stackOfThree(int[] order, int slushes) {
        SnowBalls x = Play.on(Play.NINES);
        x.strength(99);
        int[] starts = {7, 3, 12};
        String[] ways = {"rlrlr", "rlrl", "rlr"};
        for (int number = 0; number < 3; number++) {
            int level = order[0] == number ? 0 : order[1] == number ? 1 : 2;
            Play.rolled(x, (slushes >> level & 1) == 1 ? Play.SLUSH : Play.BALL, starts[level], ways[level]);
        }
        x.lift(order[1], order[0]);
        due("three, 6 and 5 and 4", x.lift(order[2], order[1]), 2 + 2 + 2);
        return x;
    }

    /** By SUN 3 each SLUSH is gone, no BALL is: whoever is left stands on the next one below that is left. */
    private static void stacksFall() {
        for (int[] order : ORDERS) {
            for (int slushes = 0; slushes < 8; slushes++) {
                SnowBalls x = stackOfThree(order, slushes);
                String what = ", order " + order[0] + order[1] + order[2] + ", gone " + slushes + ", ";
                due("how many" + what, x.day(3), Integer.bitCount(slushes));
                int below = Play.NONE;
                int height = 0;
                for (int level = 0; level < 3; level++) {
                    boolean gone = (slushes >> level & 1) == 1;
                    due("place" + what + level, x.about(order[level], 2), gone ? Play.NONE : 8);
                    due("stands on" + what + level, x.about(order[level], 3), gone ? Play.NONE : below);
                    due("size" + what + level, x.about(order[level], 1), gone ? 0 : 3 - level);
                    if (gone) continue;
                    if (below == Play.NONE) due("itself on the place" + what, x.place(8, 1), order[level]);
                    below = order[level];
                    height++;
                }
                due("height" + what, x.place(8, 2), height);
                if (height == 1) due("alone it is rolled again" + what, x.may(below, Play.UP), 1);
                if (height == 2) due("of two none is rolled" + what, x.may(0, Play.UP) + x.may(1, Play.UP) + x.may(2, Play.UP), 0);
            }
        }
    }

    private static void goneIsOnNoPlace() {
        SnowBalls x = Play.withBalls(Play.FOURS, Play.WET, 0, 19);
        x.day(1);
        for (int ball = 0; ball < 2; ball++) due("place of " + ball, x.about(ball, 2), Play.NONE);
        for (int place = 0; place < 20; place++) due("ball on " + place, x.place(place, 1), Play.NONE);
        due("a new one there", x.ball(Play.BALL, 0), 2);
        due("the new one is there", x.place(0, 1), 2);
    }

    private static void goneByThisDay() {
        SnowBalls x = Play.on(Play.NINES);
        x.ball(Play.BALL, 0);
        Play.rolled(x, Play.BALL, 5, "r");
        Play.rolled(x, Play.BALL, 10, "rr");
        x.ball(Play.POWDER, 15);
        due("the first day", x.day(1), 2);
        due("the second day", x.day(1), 1);
        due("the third day", x.day(0), 0);
        due("the fourth day", x.day(9), 1);
        due("the fifth day", x.day(9), 0);
        due("all of them", x.count(2), 4);
    }
}
