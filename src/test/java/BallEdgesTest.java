/** The edges of balls: a test for each sentence that names one (terms 1, promises 8 to 12; lifting and sun are apart). */
public final class BallEdgesTest {
    private static final Check CHECK = new Check();
    private static final String[] KINDS = {"BALL", "DRUM", "POWDER", "WET", "SLUSH"};

    public static void main(String[] args) {
        CHECK.sentence("1 BALLS (4 at most, numbered)", BallEdgesTest::fourAtMost);
        CHECK.sentence("1 each with a SIZE (1 at first)", BallEdgesTest::sizeOneAtFirst);
        CHECK.sentence("8 UNKNOWN: place", BallEdgesTest::ballOnNoPlace);
        CHECK.sentence("8 OUTSIDE: kind", BallEdgesTest::ballOfNoKind);
        CHECK.sentence("8 STATE: no LAWN", () -> due("ball", new SnowBalls().ball(Play.SLUSH, 19), Play.STATE));
        CHECK.sentence("8 or a BALL is there", BallEdgesTest::ballWhereOneIs);
        CHECK.sentence("8 FULL", BallEdgesTest::fullWithGoneOnes);
        CHECK.sentence("9 UNKNOWN", BallEdgesTest::aboutNoBall);
        CHECK.sentence("9 OUTSIDE", BallEdgesTest::aboutNothing);
        CHECK.sentence("9 1 SIZE (0: it is GONE)", BallEdgesTest::sizeOfAGoneOne);
        CHECK.sentence("9 2 its PLACE (also that above which it stands; NONE: it is GONE)", BallEdgesTest::placeOfABall);
        CHECK.sentence("9 3 on which BALL it stands (NONE)", BallEdgesTest::onWhichItStands);
        CHECK.sentence("1 One WEIGHS its SIZE; a WET, a SLUSH twice that", BallEdgesTest::weights);
        CHECK.sentence("9 6 the row or column to which a DRUM sticks (0 column, 1 row; NONE)", BallEdgesTest::axisOfADrum);
        CHECK.sentence("1 All are BALLS; a SLUSH is WET, too", BallEdgesTest::kindsThatAreKinds);
        CHECK.sentence("10 its own number (not that of the KIND); NONE: it is none such (the cast fails)", BallEdgesTest::ownNumber);
        CHECK.sentence("10 UNKNOWN; OUTSIDE", BallEdgesTest::asNothing);
        CHECK.sentence("11 UNKNOWN: ball; OUTSIDE: side", BallEdgesTest::mayOfNothing);
        CHECK.sentence("12 UNKNOWN: ball; OUTSIDE: side", BallEdgesTest::rollOfNothing);
        CHECK.sentence("1 to the PLACE beside, if there is one", BallEdgesTest::edgesOfTheLawn);
        CHECK.sentence("1 and no BALL there", BallEdgesTest::nobodyMayBeThere);
        CHECK.sentence("1 it stands on no other BALL, and none on it", BallEdgesTest::notInAStack);
        CHECK.sentence("1 it WEIGHS no more than STRENGTH", BallEdgesTest::justStrongEnough);
        CHECK.sentence("1 STRENGTH (1 to 99; 20 at first)", BallEdgesTest::greatestStrength);
        CHECK.sentence("1 a DRUM goes on only in the row, or the column, in which it was ROLLED first", BallEdgesTest::drumsStick);
        CHECK.sentence("1 its BREADTH is 1, and 1 more for each 8 of SIZE (as it is ahead of the ROLL)", BallEdgesTest::breadthOfEachSize);
        CHECK.sentence("1 a DRUM's 1 more still", BallEdgesTest::breadthOfADrum);
        CHECK.sentence("1 as much of the DEPTH, if there is so much, else all", BallEdgesTest::noMoreThanThereIs);
        CHECK.sentence("1 of a POWDER half of that (rounded up; once, whatever WETNESS)", BallEdgesTest::powderTakesHalf);
        CHECK.sentence("1 and so of a BALL, a DRUM, if WETNESS is below 4", BallEdgesTest::dryLawns);
        CHECK.sentence("1 DEPTH is so much less, SIZE so much more", BallEdgesTest::snowIsNeitherLostNorMade);
        CHECK.sentence("1 A POWDER whose SIZE is above 20 CRUMBLES", BallEdgesTest::aboveTwenty);
        CHECK.sentence("12 its SIZE then (0: it CRUMBLES)", BallEdgesTest::crumbledIsGone);
        CHECK.sentence("12 STATE: it can't be", BallEdgesTest::goneIsNotRolled);
        CHECK.end();
    }

    private static void due(String what, long got, long want) {
        CHECK.due(what, got, want);
    }

    private static void fourAtMost() {
        SnowBalls x = Play.on(Play.FOURS);
        for (int i = 0; i < 4; i++) due("number " + i, x.ball(4 - i, 19 - i), i);
        due("a fifth", x.ball(Play.BALL, 0), Play.FULL);
        due("a sixth", x.ball(Play.SLUSH, 19 - 4), Play.FULL);
        due("four", x.count(1), 4);
        due("nobody there", x.place(0, 1), Play.NONE);
        due("no fifth is known", x.about(4, 0), Play.UNKNOWN);
    }

    private static void sizeOneAtFirst() {
        for (int kind = 0; kind < 5; kind++) {
            SnowBalls x = Play.withBalls(Play.NINES, kind, 12);
            due("size of " + KINDS[kind], x.about(0, 1), 1);
            due("no snow taken by " + KINDS[kind], x.place(12, 0), 9);
        }
        SnowBalls x = Play.on(Play.NINES);
        Play.rolled(x, Play.BALL, 0, "rrr");
        Play.read(x, Play.NINES);
        x.ball(Play.BALL, 0);
        due("where a larger one was numbered so", x.about(0, 1), 1);
    }

    private static void ballOnNoPlace() {
        SnowBalls x = Play.on(Play.FOURS);
        for (int place : new int[] {-1, 20, Play.MIN, Play.MAX}) due("place " + place, x.ball(Play.BALL, place), Play.UNKNOWN);
        due("none came", x.count(1), 0);
        due("the first", x.ball(Play.BALL, 0), 0);
        due("the last", x.ball(Play.BALL, 19), 1);
    }

    private static void ballOfNoKind() {
        SnowBalls x = Play.on(Play.FOURS);
        for (int kind : new int[] {-1, 5, Play.MIN, Play.MAX}) due("kind " + kind, x.ball(kind, 7), Play.OUTSIDE);
        due("none came", x.count(1), 0);
        due("the least", x.ball(0, 7), 0);
        due("the greatest", x.ball(4, 8), 1);
    }

    private static void ballWhereOneIs() {
        SnowBalls x = Play.stackOfTwo();
        due("on a stack", x.ball(Play.BALL, 1), Play.STATE);
        due("where the lower one came from", x.ball(Play.BALL, 0), 2);
        due("where the upper one came from", x.ball(Play.BALL, 2), 3);
        SnowBalls y = Play.withBalls(Play.FOURS, Play.BALL, 3, 4);
        due("on the first", y.ball(Play.WET, 3), Play.STATE);
        due("on the second", y.ball(Play.WET, 4), Play.STATE);
        y.day(1);
        due("where one is gone", y.ball(Play.WET, 3), 2);
    }

    private static void fullWithGoneOnes() {
        SnowBalls x = Play.withBalls(Play.FOURS, Play.BALL, 0, 1, 2, 3);
        x.day(1);
        due("all four are gone", x.count(2), 4);
        due("numbered all the same", x.ball(Play.BALL, 0), Play.FULL);
        due("four", x.count(1), 4);
    }

    private static void aboutNoBall() {
        SnowBalls x = Play.withBalls(Play.FOURS, Play.BALL, 5, 6);
        for (int ball : new int[] {-1, 2, 3, 4, Play.MIN, Play.MAX}) due("ball " + ball, x.about(ball, 0), Play.UNKNOWN);
        due("the last one", x.about(1, 2), 6);
        due("before any came", Play.on(Play.FOURS).about(0, 0), Play.UNKNOWN);
    }

    private static void aboutNothing() {
        SnowBalls x = Play.withBalls(Play.FOURS, Play.SLUSH, 5);
        for (int what : new int[] {-1, 7, Play.MIN, Play.MAX}) due("what " + what, x.about(0, what), Play.OUTSIDE);
        due("the least", x.about(0, 0), Play.SLUSH);
        due("the greatest", x.about(0, 6), Play.NONE);
    }

    private static void sizeOfAGoneOne() {
        for (int kind = 0; kind < 5; kind++) {
            SnowBalls x = Play.withBalls(Play.FOURS, kind, 5);
            x.day(9);
            due(KINDS[kind] + " has no size", x.about(0, 1), 0);
            due(KINDS[kind] + " weighs nothing", x.about(0, 4), 0);
            due(KINDS[kind] + " is of its kind", x.about(0, 0), kind);
        }
    }

    private static void placeOfABall() {
        SnowBalls x = Play.stackOfTwo();
        due("of the lower one", x.about(0, 2), 1);
        due("of the upper one", x.about(1, 2), 1);
        x.day(1);
        due("of the upper one, gone", x.about(1, 2), Play.NONE);
        due("of the lower one, not gone", x.about(0, 2), 1);
        x.day(1);
        due("of the lower one, gone", x.about(0, 2), Play.NONE);
        SnowBalls y = Play.withBalls(Play.FOURS, Play.BALL, 0, 19);
        due("the first place", y.about(0, 2), 0);
        due("the last place", y.about(1, 2), 19);
    }

    private static void onWhichItStands() {
        SnowBalls x = Play.stackOfTwo();
        due("the lower one", x.about(0, 3), Play.NONE);
        due("the upper one", x.about(1, 3), 0);
        x.day(1);
        due("gone", x.about(1, 3), Play.NONE);
    }

    private static void weights() {
        int[] times = {1, 1, 1, 2, 2};
        for (int kind = 0; kind < 5; kind++) {
            SnowBalls x = Play.withBalls(Play.NINES, kind, 10);
            due(KINDS[kind] + " of 1", x.about(0, 4), times[kind]);
            int size = Play.rolls(x, 0, "rrr");
            due(KINDS[kind] + " of " + size, x.about(0, 4), times[kind] * size);
        }
    }

    private static void axisOfADrum() {
        for (int side = 0; side < 4; side++) {
            SnowBalls x = Play.withBalls(Play.FOURS, Play.DRUM, 12);
            due("ahead of its first roll", x.about(0, 6), Play.NONE);
            x.roll(0, side);
            due("by side " + side, x.about(0, 6), side == Play.UP || side == Play.DOWN ? 0 : 1);
        }
        for (int kind : new int[] {Play.BALL, Play.POWDER, Play.WET, Play.SLUSH}) {
            SnowBalls x = Play.withBalls(Play.FOURS, kind, 12);
            x.roll(0, Play.RIGHT);
            due(KINDS[kind] + " sticks to nothing", x.about(0, 6), Play.NONE);
        }
        SnowBalls x = Play.withBalls(Play.FOURS, Play.DRUM, 0);
        x.roll(0, Play.UP);
        x.largest(0, 2, 0);
        x.comes(0, 10);
        x.games(60, 1, 0);
        due("by no roll that was none", x.about(0, 6), Play.NONE);
    }

    private static void kindsThatAreKinds() {
        String[] are = {"0", "01", "02", "03", "034"};
        for (int kind = 0; kind < 5; kind++) {
            SnowBalls x = Play.withBalls(Play.FOURS, kind, 5);
            for (int as = 0; as < 5; as++) {
                due(KINDS[kind] + " as " + KINDS[as], x.as(0, as), are[kind].indexOf('0' + as) < 0 ? Play.NONE : 0);
            }
        }
    }

    private static void ownNumber() {
        SnowBalls x = Play.withBalls(Play.FOURS, Play.SLUSH, 0, 1, 2, 3);
        for (int ball = 0; ball < 4; ball++) {
            due("as BALL " + ball, x.as(ball, Play.BALL), ball);
            due("as WET " + ball, x.as(ball, Play.WET), ball);
            due("as DRUM " + ball, x.as(ball, Play.DRUM), Play.NONE);
        }
    }

    private static void asNothing() {
        SnowBalls x = Play.withBalls(Play.FOURS, Play.WET, 0, 1);
        for (int ball : new int[] {-1, 2, 4, Play.MIN, Play.MAX}) due("ball " + ball, x.as(ball, 0), Play.UNKNOWN);
        for (int kind : new int[] {-1, 5, Play.MIN, Play.MAX}) due("kind " + kind, x.as(1, kind), Play.OUTSIDE);
    }

    private static void mayOfNothing() {
        SnowBalls x = Play.withBalls(Play.FOURS, Play.BALL, 12, 0);
        for (int ball : new int[] {-1, 2, 4, Play.MIN, Play.MAX}) due("ball " + ball, x.may(ball, 0), Play.UNKNOWN);
        for (int side : new int[] {-1, 4, Play.MIN, Play.MAX}) due("side " + side, x.may(0, side), Play.OUTSIDE);
        for (int side = 0; side < 4; side++) due("side " + side, x.may(0, side), 1);
    }

    private static void rollOfNothing() {
        SnowBalls x = Play.withBalls(Play.FOURS, Play.BALL, 12, 0);
        for (int ball : new int[] {-1, 2, 4, Play.MIN, Play.MAX}) due("ball " + ball, x.roll(ball, 0), Play.UNKNOWN);
        for (int side : new int[] {-1, 4, Play.MIN, Play.MAX}) due("side " + side, x.roll(0, side), Play.OUTSIDE);
        due("nobody moved", x.about(0, 2) * 100 + x.about(1, 2), 1200);
        due("no snow is taken", x.count(0), 80);
    }

    /** Each place to each side: no way out of the lawn, and none round its edge to another row. */
    private static void edgesOfTheLawn() {
        for (int place = 0; place < 20; place++) {
            for (int side = 0; side < 4; side++) {
                SnowBalls x = Play.withBalls(Play.NINES, Play.BALL, place);
                int beside = Play.besides(place, side);
                String what = " from " + place + " to side " + side;
                due("may" + what, x.may(0, side), beside == Play.NONE ? 0 : 1);
                due("roll" + what, x.roll(0, side), beside == Play.NONE ? Play.STATE : 2);
                due("place" + what, x.about(0, 2), beside == Play.NONE ? place : beside);
                due("snow" + what, x.count(0), beside == Play.NONE ? 180 : 179);
                if (beside != Play.NONE) due("depth" + what, x.place(beside, 0), 8);
            }
        }
    }

    private static void nobodyMayBeThere() {
        for (int side = 0; side < 4; side++) {
            SnowBalls x = Play.withBalls(Play.NINES, Play.BALL, 12, Play.besides(12, side));
            for (int to = 0; to < 4; to++) due("one at side " + side + ", to side " + to, x.may(0, to), to == side ? 0 : 1);
            due("no roll to side " + side, x.roll(0, side), Play.STATE);
            x.day(1);
            x.ball(Play.BALL, 12);
            due("a gone one at side " + side, x.roll(2, side), 2);
        }
        SnowBalls x = Play.stackOfTwo();
        x.ball(Play.BALL, 2);
        due("a stack", x.roll(2, Play.LEFT), Play.STATE);
    }

    private static void notInAStack() {
        SnowBalls x = Play.stackOfTwo();
        for (int side = 0; side < 4; side++) {
            due("the lower one may not " + side, x.may(0, side), 0);
            due("the upper one may not " + side, x.may(1, side), 0);
            due("the lower one " + side, x.roll(0, side), Play.STATE);
            due("the upper one " + side, x.roll(1, side), Play.STATE);
        }
        x.day(1);
        due("without the upper one", x.roll(0, Play.RIGHT), 2);
    }

    private static void justStrongEnough() {
        for (int kind = 0; kind < 5; kind++) {
            SnowBalls x = Play.withBalls(Play.NINES, kind, 10);
            Play.rolls(x, 0, "rr");
            int weight = x.about(0, 4);
            x.strength(weight - 1);
            due(KINDS[kind] + " may not with " + (weight - 1), x.may(0, Play.RIGHT), 0);
            due(KINDS[kind] + " with " + (weight - 1), x.roll(0, Play.RIGHT), Play.STATE);
            x.strength(weight);
            due(KINDS[kind] + " may with " + weight, x.may(0, Play.RIGHT), 1);
            due(KINDS[kind] + " with " + weight, x.roll(0, Play.RIGHT) > 0 ? 1 : 0, 1);
        }
        SnowBalls x = Play.withBalls(Play.FOURS, Play.WET, 12);
        x.strength(1);
        due("a new WET with 1", x.may(0, Play.UP), 0);
    }

    private static void greatestStrength() {
        SnowBalls x = Play.withBalls(Play.NINES, Play.BALL, 0);
        due("19 by 20 at first", Play.rolls(x, 0, "rrrrdlllldrrr"), 22);
        due("22 by 20", x.roll(0, Play.RIGHT), Play.STATE);
        Play.meltedTo(x, 0, 21);
        due("21 by 20", x.may(0, Play.RIGHT), 0);
        Play.meltedTo(x, 0, 20);
        due("20 by 20", x.may(0, Play.RIGHT), 1);
        SnowBalls y = Play.withBalls(Play.NINES, Play.BALL, 0);
        y.strength(99);
        Play.rolls(y, 0, Play.ALONG + Play.BACK);
        due("100 is reached", y.about(0, 1) >= 100 ? 1 : 0, 1);
        due("melted", Play.meltedTo(y, 0, 100), 100);
        int side = y.about(0, 2) % 5 < 4 ? Play.RIGHT : Play.LEFT;
        due("100 by 99", y.may(0, side), 0);
        due("melted again", Play.meltedTo(y, 0, 99), 99);
        due("99 by 99", y.may(0, side), 1);
    }

    private static void drumsStick() {
        for (int first = 0; first < 4; first++) {
            SnowBalls x = Play.withBalls(Play.GREEN, Play.DRUM, 7);
            for (int side = 0; side < 4; side++) due("ahead of its first roll, to side " + side, x.may(0, side), 1);
            x.roll(0, first);
            int there = x.about(0, 2);
            for (int side = 0; side < 4; side++) {
                boolean goesOn = side % 2 == first % 2 && Play.besides(there, side) != Play.NONE;
                due("first to side " + first + ", may then to side " + side, x.may(0, side), goesOn ? 1 : 0);
                if (!goesOn) due("first to side " + first + ", then to side " + side, x.roll(0, side), Play.STATE);
            }
            due("back", x.roll(0, (first + 2) % 4), 1);
            due("back and forth, and still not across", x.roll(0, (first + 1) % 4), Play.STATE);
        }
        SnowBalls x = Play.withBalls(Play.GREEN, Play.DRUM, 0);
        due("no first roll", x.roll(0, Play.UP), Play.STATE);
        due("so it is free", x.may(0, Play.RIGHT), 1);
    }

    /** One of SIZE 49 melts to each size, and is rolled to a place with snow enough for it. */
    private static void breadthOfEachSize() {
        for (int size = 49; size >= 1; size--) {
            SnowBalls x = Play.withBalls(Play.NINES, Play.BALL, 0);
            x.strength(99);
            Play.rolls(x, 0, Play.ALONG);
            due("melted", Play.meltedTo(x, 0, size), size);
            due("breadth of " + size, x.about(0, 5), 1 + size / 8);
            due("rolled as it was ahead, " + size, x.roll(0, Play.UP), size + 1 + size / 8);
        }
        for (int kind : new int[] {Play.POWDER, Play.WET, Play.SLUSH}) {
            SnowBalls x = Play.withBalls(Play.NINES, kind, 0);
            due(KINDS[kind] + " of 7", Play.rolls(x, 0, "rrrrdl"), 7);
            due(KINDS[kind] + " of 7, breadth", x.about(0, 5), 1);
            due(KINDS[kind] + " of 8", x.roll(0, Play.LEFT), 8);
            due(KINDS[kind] + " of 8, breadth", x.about(0, 5), 2);
        }
    }

    private static void breadthOfADrum() {
        for (int size = 22; size >= 1; size--) {
            SnowBalls x = Play.withBalls(Play.NINES, Play.DRUM, 0);
            due("there and back", Play.rolls(x, 0, "rrrrllll"), 22);
            due("melted", Play.meltedTo(x, 0, size), size);
            x.strength(99);
            due("breadth of " + size, x.about(0, 5), 2 + size / 8);
            due("rolled as it was ahead, " + size, x.roll(0, Play.RIGHT), size + 2 + size / 8);
        }
    }

    private static void noMoreThanThereIs() {
        for (int depth = 0; depth <= 9; depth++) {
            SnowBalls x = Play.withBalls("99999/9" + depth + "999/99999/99999;9", Play.BALL, 0);
            due("eight", Play.rolls(x, 0, "rrrrdll"), 8);
            due("breadth 2 on " + depth, x.roll(0, Play.LEFT), 8 + Math.min(2, depth));
            due("left of " + depth, x.place(6, 0), depth - Math.min(2, depth));
            due("it is there", x.about(0, 2), 6);
        }
    }

    private static void powderTakesHalf() {
        for (int wetness = 0; wetness <= 9; wetness++) {
            SnowBalls x = Play.withBalls("99999/99999/99999/99999;" + wetness, Play.POWDER, 0);
            String of = " by wetness " + wetness;
            due("breadth 1" + of, Play.rolls(x, 0, "rrrrdll"), 8);
            due("breadth 2" + of, x.roll(0, Play.LEFT), 9);
            due("breadth 3" + of, Play.rolls(x, 0, "ldrrrrdl"), 18);
            due("what is left by 1" + of, x.place(1, 0), 8);
            due("what is left by 2" + of, x.place(6, 0), 8);
            due("what is left by 3" + of, x.place(18, 0), 7);
        }
        for (int depth = 0; depth <= 3; depth++) {
            SnowBalls x = Play.withBalls("99999/99999/99999/999" + depth + "9;9", Play.POWDER, 0);
            due("sixteen", Play.rolls(x, 0, "rrrrdlllldrrrrd"), 16);
            due("half of all " + depth, x.roll(0, Play.LEFT), 16 + (depth + 1) / 2);
            due("left of " + depth, x.place(18, 0), depth - (depth + 1) / 2);
        }
    }

    /** Each kind comes to a breadth of 2, whatever the wetness, and is rolled once more. */
    private static void dryLawns() {
        for (int wetness = 0; wetness <= 9; wetness++) {
            for (int kind : new int[] {Play.BALL, Play.WET, Play.SLUSH}) {
                SnowBalls x = Play.withBalls("99999/99999/99999/99999;" + wetness, kind, 0);
                due("eight", Play.rolls(x, 0, "rrrrdll"), 8);
                boolean half = kind == Play.BALL && wetness < 4;
                due(KINDS[kind] + " by wetness " + wetness, x.roll(0, Play.LEFT), half ? 9 : 10);
                due("what is left, by wetness " + wetness, x.place(6, 0), half ? 8 : 7);
            }
            SnowBalls drum = Play.withBalls("99999/99999/99999/99999;" + wetness, Play.DRUM, 0);
            due("DRUM by wetness " + wetness, drum.roll(0, Play.RIGHT), wetness < 4 ? 2 : 3);
            due("what is left, by wetness " + wetness, drum.place(1, 0), wetness < 4 ? 8 : 7);
        }
        SnowBalls x = Play.withBalls("99999/99999/99999/99999;3", Play.BALL, 0);
        due("half of 3, rounded up", Play.rolls(x, 0, "rrrrdlllldrrrrdl"), 18);
    }

    private static void snowIsNeitherLostNorMade() {
        for (int kind = 0; kind < 5; kind++) {
            SnowBalls x = Play.withBalls(Play.NINES, kind, 0);
            x.strength(99);
            for (int i = 0; i < 17; i++) {
                Play.rolls(x, 0, Play.ALONG.substring(i, i + 1));
                due(KINDS[kind] + ", roll " + i, x.count(0) + x.count(7), 181);
            }
        }
        SnowBalls left = Play.withBalls(Play.NINES, Play.BALL, 0);
        left.roll(0, Play.RIGHT);
        due("the place that it left keeps its snow", left.place(0, 0), 9);
        due("the place that it came to does not", left.place(1, 0), 8);
        SnowBalls green = Play.withBalls(Play.GREEN, Play.BALL, 0);
        due("on green", green.roll(0, Play.RIGHT), 1);
        due("it is there", green.about(0, 2), 1);
    }

    private static void aboveTwenty() {
        SnowBalls x = Play.withBalls(Play.NINES, Play.POWDER, 0);
        due("20 is not above", Play.rolls(x, 0, Play.TO_TWENTY), 20);
        due("22 is", x.roll(0, Play.LEFT), 0);
        SnowBalls y = Play.withBalls("99999/99999/99999/99919;9", Play.POWDER, 0);
        due("19", Play.rolls(y, 0, Play.TO_TWENTY), 19);
        due("21 is above", y.roll(0, Play.LEFT), 0);
        for (int kind : new int[] {Play.BALL, Play.WET, Play.SLUSH}) {
            SnowBalls other = Play.withBalls(Play.NINES, kind, 0);
            other.strength(99);
            due(KINDS[kind] + " does not", Play.rolls(other, 0, Play.ALONG), 49);
        }
        SnowBalls drum = Play.withBalls(Play.NINES, Play.DRUM, 0);
        due("DRUM does not", Play.rolls(drum, 0, "rrrrllll"), 22);
    }

    private static void crumbledIsGone() {
        SnowBalls x = Play.withBalls(Play.NINES, Play.POWDER, 0);
        Play.rolls(x, 0, Play.TO_TWENTY);
        due("it crumbles", x.roll(0, Play.LEFT), 0);
        due("size", x.about(0, 1), 0);
        due("place", x.about(0, 2), Play.NONE);
        due("nobody where it crumbled", x.place(16, 1), Play.NONE);
        due("nobody where it was", x.place(17, 1), Play.NONE);
        due("what it pressed on is taken", x.place(16, 0), 7);
        due("counted as gone", x.count(2), 1);
        due("counted as one", x.count(1), 1);
        due("a new one there", x.ball(Play.BALL, 16), 1);
    }

    private static void goneIsNotRolled() {
        SnowBalls x = Play.withBalls(Play.FOURS, Play.BALL, 12);
        x.day(1);
        for (int side = 0; side < 4; side++) {
            due("may to side " + side, x.may(0, side), 0);
            due("to side " + side, x.roll(0, side), Play.STATE);
        }
        due("still gone", x.about(0, 2), Play.NONE);
        due("no snow taken", x.count(0), 80);
    }
}
