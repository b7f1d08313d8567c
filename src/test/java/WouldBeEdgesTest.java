import java.math.BigInteger;

/** The edges of what would be: a test for each sentence that names one (terms 2 and 3, promises 15 to 20). */
public final class WouldBeEdgesTest {
    private static final Check CHECK = new Check();
    private static final String[] KINDS = {"BALL", "DRUM", "POWDER", "WET", "SLUSH"};

    public static void main(String[] args) {
        largest();
        comes();
        highestAndLasts();
        book();
        games();
        CHECK.end();
    }

    private static void largest() {
        CHECK.sentence("15 UNKNOWN", WouldBeEdgesTest::largestOfNobody);
        CHECK.sentence("15 OUTSIDE: rolls (0 to 6), what", WouldBeEdgesTest::largestOutside);
        CHECK.sentence("15 STATE: it is GONE", WouldBeEdgesTest::largestOfAGoneOne);
        CHECK.sentence("15 or largest(), comes() were done 60 times together ever", WouldBeEdgesTest::sixtyTogether);
        CHECK.sentence("15 (it counts on, whatever is read or restored)", WouldBeEdgesTest::sixtyWhateverIsRead);
        CHECK.sentence("15 (NONE: it has it now)", WouldBeEdgesTest::largestNow);
        CHECK.sentence("2 the greatest SIZE that it can have behind some of so many ROLLS", WouldBeEdgesTest::largestByEachMany);
        CHECK.sentence("2 (behind any of these; that it CRUMBLES at last does not matter)", WouldBeEdgesTest::largestAheadOfCrumbling);
        CHECK.sentence("2 of all rows of as few ROLLS as can be that come to it", WouldBeEdgesTest::fewestRollsFirst);
        CHECK.sentence("2 the first SIDE", WouldBeEdgesTest::leastSideOfEachFew);
    }

    private static void comes() {
        CHECK.sentence("16 UNKNOWN: ball, place", WouldBeEdgesTest::comesOfNobody);
        CHECK.sentence("16 STATE, as largest()", WouldBeEdgesTest::comesOfAGoneOne);
        CHECK.sentence("2 the fewest ROLLS of its own (0 to 6; 0: it is there)", WouldBeEdgesTest::comesFromEachToEach);
        CHECK.sentence("16 NONE: not in 6", WouldBeEdgesTest::comesNotInSix);
        CHECK.sentence("2 (one that CRUMBLES there is not there)", WouldBeEdgesTest::comesNotCrumbled);
    }

    private static void highestAndLasts() {
        CHECK.sentence("17 OUTSIDE", WouldBeEdgesTest::highestOutside);
        CHECK.sentence("17 NONE: there is no such three", WouldBeEdgesTest::fewerThanThree);
        CHECK.sentence("2 of all threes of BALLS that are not GONE", WouldBeEdgesTest::highestWithoutGoneOnes);
        CHECK.sentence("2 (whoever stands where)", WouldBeEdgesTest::highestWhereverTheyStand);
        CHECK.sentence("2 each larger than the next one", WouldBeEdgesTest::highestOfLikeSizes);
        CHECK.sentence("2 twice what the second one, and twice what the third one WEIGHS, each no more than STRENGTH",
            WouldBeEdgesTest::highestByJustSoMuch);
        CHECK.sentence("2 the most HEIGHT; which, as bits: of like ones the least", WouldBeEdgesTest::leastBits);
        CHECK.sentence("18 OUTSIDE: sun (1 to 9)", WouldBeEdgesTest::lastsOutside);
        CHECK.sentence("18 NONE: there is no BALL", WouldBeEdgesTest::lastsOfNobody);
        CHECK.sentence("2 behind how many DAYS first any of the BALLS that are not GONE now is GONE", WouldBeEdgesTest::lastsAsMelted);
    }

    private static void book() {
        CHECK.sentence("19 OUTSIDE: kind; UNKNOWN: place; OUTSIDE: rolls, size (0 to 99)", WouldBeEdgesTest::bookOutside);
        CHECK.sentence("19 STATE: no LAWN", () -> due("book", new SnowBalls().book(Play.BALL, 0, 0, 1), Play.STATE));
        CHECK.sentence("19 or book() was done 60 times ever (it counts on, whatever is read or restored)", WouldBeEdgesTest::sixtyBooks);
        CHECK.sentence("3 by just so many ROLLS (0 to 5)", WouldBeEdgesTest::bookAsWalked);
        CHECK.sentence("3 to have a told SIZE (0: GONE) then", WouldBeEdgesTest::bookOfEachSize);
        CHECK.sentence("3 whatever stands there (who stands there bars the way back)", WouldBeEdgesTest::bookWhereOneStands);
        CHECK.sentence("3 other BALLS as they are", WouldBeEdgesTest::bookAmongOthers);
        CHECK.sentence("3 on the LAWN as it is now", WouldBeEdgesTest::bookOnTheLawnNow);
    }

    private static void games() {
        CHECK.sentence("20 OUTSIDE: times (1 to 60), seed (0 at least), what", WouldBeEdgesTest::gamesOutside);
        CHECK.sentence("20 STATE: no LAWN, or there are no BALLS", WouldBeEdgesTest::gamesOfNobody);
        CHECK.sentence("3 1103515245 times it and 12345, its rest by 2 to the 31", WouldBeEdgesTest::seedsWrap);
        CHECK.sentence("3 a BALL by a DRAW of how many there are is ROLLED to a SIDE by a DRAW of 4, if it can be",
            WouldBeEdgesTest::gamesAsPlayed);
        CHECK.sentence("3 GAMES by a SEED, as they would be", WouldBeEdgesTest::gamesChangeNothing);
    }

    private static void due(String what, long got, long want) {
        CHECK.due(what, got, want);
    }

    private static void largestOfNobody() {
        SnowBalls x = Play.withBalls(Play.FOURS, Play.BALL, 12, 0);
        for (int ball : new int[] {-1, 2, 4, Play.MIN, Play.MAX}) due("ball " + ball, x.largest(ball, 1, 0), Play.UNKNOWN);
        due("not done", x.count(10), 0);
        due("the last one", x.largest(1, 1, 0), 2);
    }

    private static void largestOutside() {
        SnowBalls x = Play.withBalls(Play.FOURS, Play.BALL, 12);
        for (int rolls : new int[] {-1, 7, Play.MIN, Play.MAX}) due("rolls " + rolls, x.largest(0, rolls, 0), Play.OUTSIDE);
        for (int what : new int[] {-1, 2, Play.MIN, Play.MAX}) due("what " + what, x.largest(0, 1, what), Play.OUTSIDE);
        due("not done", x.count(10), 0);
        due("the fewest rolls", x.largest(0, 0, 0), 1);
        due("the most rolls", x.largest(0, 6, 0), 7);
    }

    private static void largestOfAGoneOne() {
        SnowBalls x = Play.withBalls(Play.FOURS, Play.BALL, 12, 0);
        Play.rolls(x, 1, "r");
        x.day(1);
        due("gone", x.largest(0, 1, 0), Play.STATE);
        due("gone, no rolls", x.largest(0, 0, 1), Play.STATE);
        due("not done", x.count(10), 0);
        due("not gone", x.largest(1, 1, 0), 2);
    }

    private static void sixtyTogether() {
        SnowBalls x = Play.withBalls(Play.GREEN, Play.BALL, 0);
        for (int i = 0; i < 40; i++) due("largest, time " + i, x.largest(0, 0, i % 2), i % 2 == 0 ? 1 : Play.NONE);
        for (int i = 40; i < 59; i++) due("comes, time " + i, x.comes(0, 5), 1);
        due("largest of none", x.largest(1, 0, 0), Play.UNKNOWN);
        due("59", x.count(10), 59);
        due("comes, the 60th", x.comes(0, 19), Play.NONE);
        due("60", x.count(10), 60);
        due("comes, the 61st", x.comes(0, 0), Play.STATE);
        due("largest, the 61st", x.largest(0, 0, 0), Play.STATE);
        due("still 60", x.count(10), 60);
        due("book() counts for itself", x.book(Play.BALL, 5, 0, 1), 1);
        SnowBalls y = Play.withBalls(Play.GREEN, Play.BALL, 0);
        for (int i = 0; i < 60; i++) due("comes alone, time " + i, y.comes(0, 0), 0);
        due("largest then", y.largest(0, 0, 0), Play.STATE);
    }

    private static void sixtyWhateverIsRead() {
        SnowBalls x = Play.withBalls(Play.GREEN, Play.BALL, 0);
        for (int i = 0; i < 30; i++) x.largest(0, 0, 0);
        x.image();
        for (int i = 0; i < 10; i++) x.comes(0, 0);
        x.restore();
        due("restored", x.count(10), 40);
        Play.read(x, Play.GREEN);
        x.ball(Play.BALL, 0);
        due("read", x.count(10), 40);
        for (int i = 0; i < 20; i++) due("time " + i, x.largest(0, 0, 0), 1);
        due("61 of largest", x.largest(0, 0, 0), Play.STATE);
        due("61 of comes", x.comes(0, 0), Play.STATE);
        Play.read(x, Play.GREEN);
        x.ball(Play.BALL, 0);
        due("behind another lawn", x.largest(0, 0, 0), Play.STATE);
    }

    private static void largestNow() {
        SnowBalls x = Play.withBalls(Play.NINES, Play.BALL, 12);
        due("no rolls", x.largest(0, 0, 0), 1);
        due("no side", x.largest(0, 0, 1), Play.NONE);
        SnowBalls green = Play.withBalls(Play.GREEN, Play.BALL, 12);
        due("green", green.largest(0, 6, 0), 1);
        due("green, no side", green.largest(0, 6, 1), Play.NONE);
        SnowBalls stack = Play.stackOfTwo();
        for (int ball = 0; ball < 2; ball++) {
            due("in a stack " + ball, stack.largest(ball, 6, 0), 2 - ball);
            due("in a stack, no side " + ball, stack.largest(ball, 6, 1), Play.NONE);
        }
        SnowBalls weak = Play.withBalls(Play.NINES, Play.WET, 12);
        weak.strength(1);
        due("too heavy", weak.largest(0, 6, 0), 1);
        due("too heavy, no side", weak.largest(0, 6, 1), Play.NONE);
        SnowBalls closed = Play.withBalls(Play.NINES, Play.BALL, 0, 1, 5);
        due("closed in", closed.largest(0, 6, 0), 1);
        due("closed in, no side", closed.largest(0, 6, 1), Play.NONE);
    }

    private static void largestByEachMany() {
        for (int rolls = 0; rolls <= 6; rolls++) {
            SnowBalls x = Play.withBalls(Play.FOURS, Play.BALL, 12);
            due("by " + rolls, x.largest(0, rolls, 0), 1 + rolls);
            SnowBalls drum = Play.withBalls(Play.NINES, Play.DRUM, 0);
            due("DRUM by " + rolls, drum.largest(0, rolls, 0), new int[] {1, 3, 5, 7, 9, 12, 15}[rolls]);
            SnowBalls weak = Play.withBalls(Play.NINES, Play.WET, 0);
            weak.strength(6);
            due("WET with STRENGTH 6 by " + rolls, weak.largest(0, rolls, 0), Math.min(4, 1 + rolls));
            SnowBalls once = Play.withBalls("01000/00000/00000/00000;9", Play.BALL, 0);
            due("of snow that is taken once by " + rolls, once.largest(0, rolls, 0), rolls == 0 ? 1 : 2);
            SnowBalls twice = Play.withBalls("02000/00000/00000/00000;9", Play.BALL, 0);
            due("there again by " + rolls, twice.largest(0, rolls, 0), rolls == 0 ? 1 : rolls < 3 ? 2 : 3);
        }
    }

    private static SnowBalls powderOf(String lawn, String way) {
        SnowBalls x = Play.withBalls(lawn, Play.POWDER, 0);
        Play.rolls(x, 0, way);
        return x;
    }

    private static void largestAheadOfCrumbling() {
        SnowBalls twenty = powderOf(Play.NINES, Play.TO_TWENTY);
        due("20 has it now", twenty.largest(0, 6, 0), 20);
        due("20, no side", twenty.largest(0, 6, 1), Play.NONE);
        SnowBalls eighteen = powderOf(Play.NINES, Play.TO_TWENTY.substring(0, 16));
        due("18, one roll", eighteen.largest(0, 1, 0), 20);
        due("18, two rolls, by the second of which it crumbles", eighteen.largest(0, 2, 0), 20);
        due("18, six rolls", eighteen.largest(0, 6, 0), 20);
        due("18, the side", eighteen.largest(0, 6, 1), Play.UP);
        SnowBalls nineteen = powderOf("99999/99999/99999/99919;9", Play.TO_TWENTY);
        due("19, on any snow it crumbles", nineteen.largest(0, 1, 0), 19);
        due("19, no side", nineteen.largest(0, 1, 1), Play.NONE);
        due("19 as it was", nineteen.about(0, 1), 19);
    }

    /** Snow to the left by one roll, and up by two; both by no fewer than four. */
    private static void fewestRollsFirst() {
        String lawn = "00100/00000/01000/00000;9";
        int[] sizes = {1, 2, 2, 2, 3, 3, 3};
        for (int rolls = 0; rolls <= 6; rolls++) {
            SnowBalls x = Play.withBalls(lawn, Play.BALL, 12);
            due("size by " + rolls, x.largest(0, rolls, 0), sizes[rolls]);
            due("side by " + rolls, x.largest(0, rolls, 1), rolls == 0 ? Play.NONE : Play.LEFT);
        }
        SnowBalls x = Play.withBalls("00000/00000/00000/00100;9", Play.BALL, 12);
        due("down, though a row that starts up comes to it, too", x.largest(0, 3, 1), Play.DOWN);
        SnowBalls corner = Play.withBalls("00000/00000/00000/00010;9", Play.BALL, 12);
        due("of two rows of two the one that starts right", corner.largest(0, 6, 1), Play.RIGHT);
    }

    /** Snow beside it to each few of the four sides: the least of these sides is told. */
    private static void leastSideOfEachFew() {
        for (int few = 0; few < 16; few++) {
            StringBuilder lawn = new StringBuilder(Play.GREEN);
            for (int side = 0; side < 4; side++) {
                int place = Play.besides(12, side);
                if ((few >> side & 1) == 1) lawn.setCharAt(place + place / 5, '1');
            }
            SnowBalls x = Play.withBalls(lawn.toString(), Play.BALL, 12);
            due("snow at " + few, x.largest(0, 1, 1), few == 0 ? Play.NONE : Integer.numberOfTrailingZeros(few));
            due("size by " + few, x.largest(0, 1, 0), few == 0 ? 1 : 2);
        }
    }

    private static void comesOfNobody() {
        SnowBalls x = Play.withBalls(Play.FOURS, Play.BALL, 12, 0);
        for (int ball : new int[] {-1, 2, 4, Play.MIN, Play.MAX}) due("ball " + ball, x.comes(ball, 0), Play.UNKNOWN);
        for (int place : new int[] {-1, 20, Play.MIN, Play.MAX}) due("place " + place, x.comes(0, place), Play.UNKNOWN);
        due("not done", x.count(10), 0);
        due("the first place", x.comes(1, 0), 0);
        due("the last place", x.comes(0, 19), 3);
    }

    private static void comesOfAGoneOne() {
        SnowBalls x = Play.withBalls(Play.FOURS, Play.BALL, 12);
        x.day(1);
        for (int place = 0; place < 20; place++) due("to " + place, x.comes(0, place), Play.STATE);
        due("not done", x.count(10), 0);
    }

    private static void comesFromEachToEach() {
        for (int from = 0; from < 20; from++) {
            SnowBalls x = Play.withBalls(Play.GREEN, Play.BALL, from);
            SnowBalls drum = Play.withBalls(Play.GREEN, Play.DRUM, from);
            for (int to = 0; to < 20; to++) {
                int apart = Play.apart(from, to);
                boolean straight = from / 5 == to / 5 || from % 5 == to % 5;
                due("from " + from + " to " + to, x.comes(0, to), apart > 6 ? Play.NONE : apart);
                due("DRUM from " + from + " to " + to, drum.comes(0, to), straight ? apart : Play.NONE);
            }
        }
        SnowBalls stack = Play.stackOfTwo();
        for (int ball = 0; ball < 2; ball++) {
            due("there in a stack " + ball, stack.comes(ball, 1), 0);
            due("not out of a stack " + ball, stack.comes(ball, 2), Play.NONE);
        }
    }

    private static void comesNotInSix() {
        SnowBalls corner = Play.withBalls(Play.FOURS, Play.BALL, 0);
        due("six", corner.comes(0, 18), 6);
        due("seven", corner.comes(0, 19), Play.NONE);
        SnowBalls barred = Play.withBalls(Play.FOURS, Play.BALL, 0, 1);
        due("where one is", barred.comes(0, 1), Play.NONE);
        due("around it", barred.comes(0, 2), 4);
        SnowBalls far = Play.withBalls(Play.FOURS, Play.BALL, 0, 1, 6, 11);
        due("around three not in six", far.comes(0, 2), Play.NONE);
        due("around three in six", far.comes(0, 17), 5);
        SnowBalls weak = Play.withBalls(Play.FOURS, Play.BALL, 0);
        weak.strength(2);
        due("too heavy behind two", weak.comes(0, 15), Play.NONE);
        due("not too heavy for two", weak.comes(0, 10), 2);
    }

    private static void comesNotCrumbled() {
        SnowBalls x = powderOf("99999/99999/99999/90999;9", Play.TO_TWENTY);
        due("20", x.about(0, 1), 20);
        due("on green it is whole", x.comes(0, 16), 1);
        due("it crumbles behind that", x.comes(0, 15), Play.NONE);
        due("it crumbles beside", x.comes(0, 12), Play.NONE);
        due("back", x.comes(0, 17), 0);
        due("four done", x.count(10), 4);
    }

    private static void highestOutside() {
        SnowBalls x = Play.withBalls(Play.FOURS, Play.BALL, 0);
        for (int what : new int[] {-1, 2, Play.MIN, Play.MAX}) {
            due("what " + what, x.highest(what), Play.OUTSIDE);
            due("without a lawn, what " + what, new SnowBalls().highest(what), Play.OUTSIDE);
        }
    }

    /** BALLS of so many SIZES, in the first places of rows of nines. */
    private static SnowBalls ofSizes(int... sizes) {
        SnowBalls x = Play.on(Play.NINES);
        x.strength(99);
        for (int i = 0; i < sizes.length; i++) Play.rolled(x, Play.BALL, 5 * i, "rlrlrlrlr".substring(0, sizes[i] - 1));
        for (int i = 0; i < sizes.length; i++) due("size of " + i, x.about(i, 1), sizes[i]);
        return x;
    }

    private static void highestIs(String what, SnowBalls x, int height, int which) {
        due(what + ", height", x.highest(0), height);
        due(what + ", which", x.highest(1), which);
    }

    private static void fewerThanThree() {
        highestIs("without a lawn", new SnowBalls(), Play.NONE, Play.NONE);
        highestIs("no ball", Play.on(Play.NINES), Play.NONE, Play.NONE);
        highestIs("one", ofSizes(1), Play.NONE, Play.NONE);
        highestIs("two", ofSizes(1, 2), Play.NONE, Play.NONE);
        highestIs("three", ofSizes(1, 2, 3), 3, 7);
        for (int[] order : new int[][] {{1, 3, 2}, {2, 1, 3}, {2, 3, 1}, {3, 1, 2}, {3, 2, 1}}) {
            highestIs("three in another order", ofSizes(order), 3, 7);
        }
    }

    private static void highestWithoutGoneOnes() {
        SnowBalls x = ofSizes(1, 2, 3, 4);
        highestIs("four", x, 1 + 1 + 2, 11);
        x.day(1);
        highestIs("one of them gone", x, 1 + 1 + 1, 14);
        x.day(1);
        highestIs("two of them gone", x, Play.NONE, Play.NONE);
        SnowBalls y = ofSizes(4, 1, 3, 2);
        highestIs("four in another order", y, 2 + 1 + 1, 7);
        y.day(1);
        highestIs("the second gone", y, 1 + 1 + 1, 13);
    }

    private static void highestWhereverTheyStand() {
        SnowBalls x = Play.stackOfTwo();
        Play.rolled(x, Play.BALL, 19, "ll");
        highestIs("two of them in a stack, one far off", x, 3, 7);
    }

    private static void highestOfLikeSizes() {
        highestIs("three of one size", ofSizes(2, 2, 2), Play.NONE, Play.NONE);
        highestIs("the two smaller ones alike", ofSizes(2, 2, 3), Play.NONE, Play.NONE);
        highestIs("the two larger ones alike", ofSizes(1, 3, 3), Play.NONE, Play.NONE);
        highestIs("one of two alike", ofSizes(1, 2, 2, 3), 3, 11);
        highestIs("one of two alike, the largest", ofSizes(3, 3, 1, 2), 3, 13);
    }

    private static void highestByJustSoMuch() {
        SnowBalls x = ofSizes(5, 3, 2);
        x.strength(5);
        highestIs("the second one weighs 3, by 5", x, Play.NONE, Play.NONE);
        x.strength(6);
        highestIs("the second one weighs 3, by 6", x, 2 + 1 + 1, 7);
        SnowBalls wet = Play.on(Play.NINES);
        Play.rolled(wet, Play.BALL, 0, "rlrl");
        Play.rolled(wet, Play.BALL, 5, "rlr");
        Play.rolled(wet, Play.WET, 10, "rl");
        wet.strength(11);
        highestIs("the third one weighs 6, by 11", wet, Play.NONE, Play.NONE);
        wet.strength(12);
        highestIs("the third one weighs 6, by 12", wet, 2 + 2 + 1, 7);
        SnowBalls heavy = Play.on(Play.NINES);
        Play.rolled(heavy, Play.SLUSH, 0, "rlrlrlr");
        Play.rolled(heavy, Play.SLUSH, 5, "r");
        heavy.ball(Play.BALL, 10);
        heavy.strength(7);
        highestIs("the second one, a SLUSH, by 7", heavy, Play.NONE, Play.NONE);
        heavy.strength(8);
        highestIs("the first one is as heavy as it likes", heavy, 2 + 1 + 1, 7);
    }

    private static void leastBits() {
        highestIs("all threes are alike", ofSizes(4, 5, 6, 7), 2 + 2 + 2, 7);
        highestIs("without the least it is higher", ofSizes(1, 5, 6, 7), 2 + 2 + 2, 14);
        highestIs("without the second it is higher", ofSizes(5, 1, 6, 7), 2 + 2 + 2, 13);
        highestIs("without the third it is higher", ofSizes(5, 6, 1, 7), 2 + 2 + 2, 11);
        highestIs("without the fourth it is higher", ofSizes(5, 6, 7, 1), 2 + 2 + 2, 7);
        highestIs("three of four threes are alike", ofSizes(1, 2, 3, 4), 2 + 1 + 1, 11);
        highestIs("the least of like ones", ofSizes(4, 1, 2, 3), 2 + 1 + 1, 7);
    }

    private static void lastsOutside() {
        SnowBalls x = Play.withBalls(Play.FOURS, Play.DRUM, 0);
        for (int sun : new int[] {0, 10, -1, Play.MIN, Play.MAX}) {
            due("sun " + sun, x.lasts(sun), Play.OUTSIDE);
            due("without a lawn, sun " + sun, new SnowBalls().lasts(sun), Play.OUTSIDE);
        }
        due("the least", x.lasts(1), 1);
        due("the greatest", x.lasts(9), 1);
    }

    private static void lastsOfNobody() {
        due("without a lawn", new SnowBalls().lasts(1), Play.NONE);
        due("without a ball", Play.on(Play.FOURS).lasts(9), Play.NONE);
        SnowBalls x = Play.withBalls(Play.FOURS, Play.BALL, 0, 1);
        x.day(1);
        due("all are gone", x.lasts(1), Play.NONE);
    }

    private static int daysUntilOneMoreIsGone(SnowBalls x, int sun) {
        for (int day = 1; day <= 30; day++) if (x.day(sun) > 0) return day;
        return Play.NONE;
    }

    private static void lastsAsMelted() {
        for (int kind = 0; kind < 5; kind++) {
            for (int size = 1; size <= 7; size++) {
                for (int sun = 1; sun <= 9; sun++) {
                    SnowBalls x = Play.withBalls(Play.NINES, kind, 0);
                    Play.rolls(x, 0, "rrrrdl".substring(0, size - 1));
                    int lasts = x.lasts(sun);
                    due(KINDS[kind] + " of " + size + " rolls by " + sun, lasts, daysUntilOneMoreIsGone(x, sun));
                }
            }
        }
        SnowBalls x = ofSizes(7, 3, 5);
        due("the first of three", x.lasts(2), 2);
        x.day(3);
        due("not the gone one", x.lasts(1), 2);
        due("by just so much", x.lasts(2), 1);
        due("nothing melts by it", x.count(7), 4 + 2);
    }

    private static void bookOutside() {
        SnowBalls x = Play.on(Play.FOURS);
        for (int kind : new int[] {-1, 5, Play.MIN, Play.MAX}) due("kind " + kind, x.book(kind, 0, 0, 1), Play.OUTSIDE);
        for (int place : new int[] {-1, 20, Play.MIN, Play.MAX}) due("place " + place, x.book(0, place, 0, 1), Play.UNKNOWN);
        for (int rolls : new int[] {-1, 6, Play.MIN, Play.MAX}) due("rolls " + rolls, x.book(0, 0, rolls, 1), Play.OUTSIDE);
        for (int size : new int[] {-1, 100, Play.MIN, Play.MAX}) due("size " + size, x.book(0, 0, 0, size), Play.OUTSIDE);
        due("not done", x.count(11), 0);
        due("the least of all", x.book(0, 0, 0, 0), 0);
        due("the greatest of all", x.book(4, 19, 5, 99), 0);
        due("the least that there is", x.book(4, 19, 0, 1), 1);
        due("three done", x.count(11), 3);
    }

    private static void sixtyBooks() {
        SnowBalls x = Play.on(Play.GREEN);
        x.image();
        for (int i = 0; i < 59; i++) due("time " + i, x.book(Play.BALL, 0, 0, 1), 1);
        due("refused", x.book(Play.BALL, 20, 0, 1), Play.UNKNOWN);
        due("the 60th, none", x.book(Play.BALL, 0, 0, 0), 0);
        due("the 61st", x.book(Play.BALL, 0, 0, 1), Play.STATE);
        due("60", x.count(11), 60);
        x.restore();
        due("restored", x.book(Play.BALL, 0, 0, 1), Play.STATE);
        Play.read(x, Play.GREEN);
        due("read", x.book(Play.BALL, 0, 0, 1), Play.STATE);
        due("still 60", x.count(11), 60);
        x.ball(Play.BALL, 0);
        due("largest() counts for itself", x.largest(0, 0, 0), 1);
    }

    /** On green each row of rolls is a walk of its own, and the SIZE stays 1. */
    private static int walks(int place, int rolls, int axis, int barred) {
        if (rolls == 0) return 1;
        int walks = 0;
        for (int side = 0; side < 4; side++) {
            int next = Play.besides(place, side);
            if (next == Play.NONE || next == barred || (axis != Play.NONE && side % 2 != axis)) continue;
            walks += walks(next, rolls - 1, axis, barred);
        }
        return walks;
    }

    private static int freeWalks(int place, int rolls) {
        return walks(place, rolls, Play.NONE, Play.NONE);
    }

    private static void bookAsWalked() {
        for (int rolls = 0; rolls <= 5; rolls++) {
            SnowBalls x = Play.on(Play.GREEN);
            SnowBalls drum = Play.on(Play.GREEN);
            for (int place = 0; place < 20; place++) {
                String what = " from " + place + " by " + rolls;
                due("BALL" + what, x.book(Play.BALL, place, rolls, 1), freeWalks(place, rolls));
                int straight = walks(place, rolls, 0, Play.NONE) + walks(place, rolls, 1, Play.NONE);
                due("DRUM" + what, drum.book(Play.DRUM, place, rolls, 1), rolls == 0 ? 1 : straight);
            }
        }
    }

    /** Plays each row of so many sides in truth, each on a lawn of its own. */
    private static int waysPlayed(String lawn, int strength, int kind, int place, int rolls, int size) {
        int ways = 0;
        for (int row = 0; row < 1 << 2 * rolls; row++) {
            SnowBalls x = Play.withBalls(lawn, kind, place);
            x.strength(strength);
            boolean could = true;
            for (int i = 0; i < rolls && could; i++) could = x.roll(0, row >> 2 * i & 3) >= 0;
            if (could && x.about(0, 1) == size) ways++;
        }
        return ways;
    }

    private static void bookOfEachSize() {
        String lawn = "30101/01220/10201/02113;3";
        for (int kind = 0; kind < 5; kind++) {
            for (int strength : new int[] {2, 5, 20}) {
                SnowBalls x = Play.on(lawn);
                x.strength(strength);
                for (int size = 0; size <= 8; size++) {
                    String what = KINDS[kind] + " to " + size + " with " + strength;
                    due(what, x.book(kind, 12, 3, size), waysPlayed(lawn, strength, kind, 12, 3, size));
                }
            }
        }
        SnowBalls x = Play.on(Play.NINES);
        for (int rolls = 0; rolls <= 5; rolls++) {
            due("GONE, a POWDER by " + rolls, x.book(Play.POWDER, 12, rolls, 0), 0);
            due("one more for each, a POWDER by " + rolls, x.book(Play.POWDER, 12, rolls, 1 + rolls), freeWalks(12, rolls));
            due("none for a roll by " + rolls, x.book(Play.POWDER, 12, rolls, rolls), 0);
        }
    }

    private static void bookWhereOneStands() {
        SnowBalls x = Play.withBalls(Play.GREEN, Play.BALL, 12);
        for (int rolls = 0; rolls <= 5; rolls++) {
            due("from where one stands, by " + rolls, x.book(Play.BALL, 12, rolls, 1), walks(12, rolls, Play.NONE, 12));
            due("past one that stands, by " + rolls, x.book(Play.BALL, 7, rolls, 1), walks(7, rolls, Play.NONE, 12));
        }
        SnowBalls stack = Play.stackOfTwo();
        due("where a stack is", stack.book(Play.BALL, 1, 0, 1), 1);
        due("from a stack, by two", stack.book(Play.BALL, 1, 2, 3), 1 + 2 + 3);
        SnowBalls gone = Play.withBalls(Play.GREEN, Play.BALL, 12);
        gone.day(1);
        due("a gone one bars nothing", gone.book(Play.BALL, 12, 2, 1), freeWalks(12, 2));
    }

    private static void bookAmongOthers() {
        SnowBalls x = Play.withBalls(Play.GREEN, Play.BALL, 7, 11, 13, 17);
        due("four are there", x.count(1), 4);
        due("closed in, by none", x.book(Play.SLUSH, 12, 0, 1), 1);
        due("closed in, by one", x.book(Play.SLUSH, 12, 1, 1), 0);
        due("outside of them", x.book(Play.SLUSH, 0, 1, 1), 2);
        due("beside one of them", x.book(Play.SLUSH, 6, 1, 1), 2);
        due("no fifth", x.count(1), 4);
        due("none moved", x.about(0, 2), 7);
    }

    private static void bookOnTheLawnNow() {
        SnowBalls x = Play.withBalls("01000/00000/00000/00000;9", Play.BALL, 2);
        due("ahead of a roll", x.book(Play.BALL, 0, 1, 2), 1);
        Play.rolls(x, 0, "lr");
        due("behind it", x.book(Play.BALL, 0, 1, 2), 0);
        due("no snow is taken", x.book(Play.BALL, 0, 1, 1), 2);
        x.strength(1);
        due("with a STRENGTH of 1 a WET", x.book(Play.WET, 0, 1, 1), 0);
        due("with a STRENGTH of 1 a BALL", x.book(Play.BALL, 0, 1, 1), 2);
        SnowBalls dry = Play.withBalls("09000/00000/00000/00000;3", Play.BALL, 19);
        due("a DRUM on a dry one", dry.book(Play.DRUM, 0, 1, 2), 1);
        SnowBalls wet = Play.withBalls("09000/00000/00000/00000;4", Play.BALL, 19);
        due("a DRUM on a wet one", wet.book(Play.DRUM, 0, 1, 3), 1);
    }

    private static void gamesOutside() {
        SnowBalls x = Play.withBalls(Play.FOURS, Play.BALL, 12);
        for (int times : new int[] {0, 61, -1, Play.MIN, Play.MAX}) due("times " + times, x.games(times, 1, 0), Play.OUTSIDE);
        for (int seed : new int[] {-1, Play.MIN}) due("seed " + seed, x.games(1, seed, 0), Play.OUTSIDE);
        for (int what : new int[] {-1, 4, Play.MIN, Play.MAX}) due("what " + what, x.games(1, 1, what), Play.OUTSIDE);
        due("the least of all", x.games(1, 0, 0), 2);
        due("the greatest of all", x.games(60, Play.MAX, 3), drawn(Play.MAX, 120).intValueExact());
    }

    private static void gamesOfNobody() {
        due("no lawn", new SnowBalls().games(1, 0, 0), Play.STATE);
        SnowBalls x = Play.on(Play.FOURS);
        for (int what = 0; what < 4; what++) due("no balls, what " + what, x.games(60, 0, what), Play.STATE);
        x.ball(Play.BALL, 12);
        due("one", x.games(1, 0, 1), 1);
        x.day(1);
        due("a gone one is one", x.games(60, 0, 1), 0);
        due("it has no size", x.games(60, 0, 0), 0);
    }

    private static BigInteger drawn(long seed, int draws) {
        BigInteger drawn = BigInteger.valueOf(seed);
        for (int i = 0; i < draws; i++) {
            drawn = drawn.multiply(BigInteger.valueOf(1103515245)).add(BigInteger.valueOf(12345)).mod(BigInteger.TWO.pow(31));
        }
        return drawn;
    }

    private static void seedsWrap() {
        for (int seed : new int[] {0, 1, 2, 65535, 65536, 1103515245, Play.MAX - 1, Play.MAX}) {
            SnowBalls x = Play.withBalls(Play.FOURS, Play.BALL, 12);
            for (int times : new int[] {1, 2, 59, 60}) {
                due("seed " + seed + ", times " + times, x.games(times, seed, 3), drawn(seed, 2 * times).longValueExact());
            }
        }
    }

    private static SnowBalls toPlay(int balls) {
        SnowBalls x = Play.on("95929/99090/29999/91999;3");
        x.strength(15);
        int[] kinds = {Play.BALL, Play.DRUM, Play.SLUSH, Play.WET};
        for (int i = 0; i < balls; i++) x.ball(kinds[i], 3 + 4 * i);
        return x;
    }

    /** What is told is what comes of it when the same draws are rolled in truth. */
    private static void gamesAsPlayed() {
        for (int balls = 1; balls <= 4; balls++) {
            for (int seed : new int[] {0, 1, 77, 4711, 1234567890, Play.MAX}) {
                SnowBalls x = toPlay(balls);
                int rolled = 0;
                for (int time = 1; time <= 60; time++) {
                    int ball = drawn(seed, 2 * time - 1).intValueExact() / 65536 % balls;
                    int side = drawn(seed, 2 * time).intValueExact() / 65536 % 4;
                    if (x.roll(ball, side) >= 0) rolled++;
                    if (time != 1 && time != 7 && time != 60) continue;
                    SnowBalls y = toPlay(balls);
                    String what = balls + " balls, seed " + seed + ", times " + time;
                    due("sizes, " + what, y.games(time, seed, 0), x.count(7));
                    due("rolls, " + what, y.games(time, seed, 1), rolled);
                    due("depths, " + what, y.games(time, seed, 2), x.count(0));
                }
            }
        }
        goneOnesAreDrawn();
        int crumbled = 0;
        for (int seed = 0; seed < 40; seed++) {
            SnowBalls x = powderOf(Play.NINES, Play.TO_TWENTY.substring(0, 16));
            x.ball(Play.BALL, 0);
            if (x.games(60, seed, 0) + x.games(60, seed, 2) < x.count(0) + x.count(7)) crumbled++;
        }
        due("a POWDER that crumbles is rolled no further", crumbled, 40);
    }

    /** Of four on green only one is not gone: it is rolled as often as it is drawn, and its way is free. */
    private static void goneOnesAreDrawn() {
        for (int seed = 0; seed < 20; seed++) {
            SnowBalls x = Play.withBalls("00000/00010/00000/00000;9", Play.BALL, 0, 7, 14, 19);
            x.roll(1, Play.RIGHT);
            due("three are gone", x.day(1), 3);
            int due = 0;
            int row = 1;
            int column = 3;
            for (int time = 1; time <= 30; time++) {
                int ball = drawn(seed, 2 * time - 1).intValueExact() / 65536 % 4;
                int side = drawn(seed, 2 * time).intValueExact() / 65536 % 4;
                int next = Play.besides(row * 5 + column, side);
                if (ball != 1 || next == Play.NONE) continue;
                row = next / 5;
                column = next % 5;
                due++;
            }
            due("rolls, seed " + seed, x.games(30, seed, 1), due);
        }
    }

    private static void gamesChangeNothing() {
        SnowBalls x = toPlay(4);
        long before = x.digest();
        for (int what = 0; what < 4; what++) x.games(60, 99, what);
        due("as it was", x.digest(), before);
        due("the same again", x.games(60, 99, 0) - x.games(60, 99, 0), 0);
    }
}
