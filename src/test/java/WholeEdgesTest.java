/** The edges of what is told of all: a test for each sentence that names one (terms 3, promises 21 to 24). */
public final class WholeEdgesTest {
    private static final Check CHECK = new Check();

    public static void main(String[] args) {
        CHECK.sentence("21 STATE: no LAWN", () -> due("image", new SnowBalls().image(), Play.STATE));
        CHECK.sentence("21 An IMAGE is kept (one; the latest): how many BALLS", WholeEdgesTest::theLatestImage);
        CHECK.sentence("3 An IMAGE keeps DEPTHS", WholeEdgesTest::imageKeepsDepths);
        CHECK.sentence("3 STRENGTH, how many BALLS there are (those that come since are gone by restore())", WholeEdgesTest::imageKeepsBalls);
        CHECK.sentence("3 all that is told of them, DAYS", WholeEdgesTest::imageKeepsAllOfThem);
        CHECK.sentence("22 It goes on from the IMAGE: how many BALLS", WholeEdgesTest::goesOnFromTheImage);
        CHECK.sentence("22 STATE: none was kept", WholeEdgesTest::noneWasKept);
        CHECK.sentence("22 or a LAWN was read since (of the same text, too)", WholeEdgesTest::lawnReadSince);
        CHECK.sentence("23 OUTSIDE", WholeEdgesTest::countsOutside);
        CHECK.sentence("23 0 DEPTHS together", WholeEdgesTest::depthsTogether);
        CHECK.sentence("23 1 BALLS (GONE ones, too), 2 GONE ones", WholeEdgesTest::ballsAndGoneOnes);
        CHECK.sentence("23 3 green PLACES (DEPTH 0; without a LAWN 0)", WholeEdgesTest::greenPlaces);
        CHECK.sentence("23 4 WETNESS, 5 STRENGTH, 6 DAYS, 7 SIZES together", WholeEdgesTest::wetnessToSizes);
        CHECK.sentence("23 8 letters of THE PAGE, 9 how often a LAWN was read", WholeEdgesTest::lettersAndLawns);
        CHECK.sentence("23 10 how often largest(), comes() were done, 11 book()", WholeEdgesTest::searchesAndBooks);
        CHECK.sentence("24 h is 727", WholeEdgesTest::digestOfANewOne);
        CHECK.sentence("24 31 times h, and it (as longs, wrapping)", WholeEdgesTest::digestWraps);
        CHECK.sentence("24 with a LAWN of each PLACE what place() tells for 0 to 2", WholeEdgesTest::digestOfPlaces);
        CHECK.sentence("24 of each BALL what about() tells for 0 to 6, whether it can be ROLLED to each SIDE", WholeEdgesTest::digestOfBalls);
        CHECK.sentence("24 letters of THE PAGE, each by its code", WholeEdgesTest::digestOfLetters);
        CHECK.end();
    }

    private static void due(String what, long got, long want) {
        CHECK.due(what, got, want);
    }

    private static void theLatestImage() {
        SnowBalls x = Play.on(Play.FOURS);
        due("of no balls", x.image(), 0);
        x.ball(Play.BALL, 0);
        due("of one", x.image(), 1);
        x.ball(Play.BALL, 1);
        x.day(1);
        x.ball(Play.BALL, 2);
        due("of three, two of them gone", x.image(), 3);
        x.roll(2, Play.RIGHT);
        due("the latest", x.restore(), 3);
        due("as it was then", x.about(2, 2), 2);
        due("gone as they were", x.count(2), 2);
    }

    private static void imageKeepsDepths() {
        SnowBalls x = Play.withBalls(Play.FOURS, Play.BALL, 0);
        x.image();
        for (int i = 0; i < 19; i++) Play.rolls(x, 0, Play.ALONG.substring(i, i + 1));
        due("taken", x.count(0) < 80 ? 1 : 0, 1);
        x.restore();
        for (int place = 0; place < 20; place++) due("depth " + place, x.place(place, 0), 4);
    }

    private static void imageKeepsBalls() {
        SnowBalls x = Play.withBalls(Play.FOURS, Play.BALL, 0);
        x.strength(33);
        x.image();
        for (int place = 1; place < 4; place++) x.ball(Play.DRUM, place);
        x.strength(44);
        due("one", x.restore(), 1);
        due("strength", x.count(5), 33);
        due("balls", x.count(1), 1);
        for (int ball = 1; ball < 4; ball++) due("gone by restore() " + ball, x.about(ball, 0), Play.UNKNOWN);
        for (int place = 1; place < 4; place++) due("nobody on " + place, x.place(place, 1), Play.NONE);
        for (int ball = 1; ball < 4; ball++) due("numbered again " + ball, x.ball(Play.WET, ball), ball);
        due("FULL again", x.ball(Play.WET, 9), Play.FULL);
        due("of the new kind", x.about(1, 0), Play.WET);
        SnowBalls all = Play.withBalls(Play.NINES, Play.BALL, 0);
        all.image();
        long kept = all.digest();
        Play.rolled(all, Play.BALL, 2, "r");
        all.ball(Play.BALL, 4);
        all.lift(2, 1);
        all.ball(Play.SLUSH, 5);
        all.restore();
        due("all as it was", all.digest(), kept);
        due("no more are gone by a day", all.day(9), 1);
    }

    /** Each change behind the image is undone by restore(): the digest tells all but the image. */
    private static void imageKeepsAllOfThem() {
        SnowBalls x = Play.stackOfTwo();
        Play.rolled(x, Play.DRUM, 13, "u");
        x.day(0);
        x.image();
        long kept = x.digest();
        due("a day since, by which two are gone", x.day(1), 2);
        x.restore();
        due("behind a day", x.digest(), kept);
        Play.rolls(x, 2, "d");
        x.restore();
        due("behind a roll", x.digest(), kept);
        due("the drum sticks as it did", x.may(2, Play.LEFT), 0);
        x.day(9);
        due("behind the last day", x.restore(), 3);
        SnowBalls drum = Play.withBalls(Play.NINES, Play.DRUM, 13);
        drum.image();
        drum.roll(0, Play.UP);
        drum.restore();
        due("a drum that stuck to nothing sticks to nothing", drum.about(0, 6), Play.NONE);
        drum.roll(0, Play.LEFT);
        due("and is free", drum.about(0, 6), 1);
        SnowBalls apart = Play.on(Play.NINES);
        Play.rolled(apart, Play.BALL, 0, "r");
        apart.ball(Play.BALL, 2);
        apart.image();
        apart.lift(1, 0);
        apart.restore();
        due("lifted since", apart.about(1, 3), Play.NONE);
        due("back on its place", apart.about(1, 2), 2);
        apart.lift(1, 0);
        apart.image();
        apart.day(1);
        apart.restore();
        due("in the stack", apart.about(1, 3), 0);
    }

    private static void goesOnFromTheImage() {
        SnowBalls x = Play.on(Play.FOURS);
        x.image();
        due("no balls", x.restore(), 0);
        x.ball(Play.BALL, 0);
        x.image();
        x.roll(0, Play.RIGHT);
        due("one", x.restore(), 1);
        due("it goes on", x.roll(0, Play.DOWN), 2);
        due("again from the same", x.restore(), 1);
        due("the image is not what goes on", x.about(0, 2), 0);
        Play.type(x, "44x");
        x.restore();
        due("the page is not the image's", x.count(8), 3);
        due("nor is how often a lawn was read", x.count(9), 1);
    }

    private static void noneWasKept() {
        due("no lawn", new SnowBalls().restore(), Play.STATE);
        SnowBalls x = Play.withBalls(Play.FOURS, Play.BALL, 0);
        due("no image", x.restore(), Play.STATE);
        due("nothing changed", x.count(1), 1);
        SnowBalls refused = new SnowBalls();
        refused.image();
        Play.read(refused, Play.FOURS);
        due("an image that was none", refused.restore(), Play.STATE);
    }

    private static void lawnReadSince() {
        SnowBalls x = Play.withBalls(Play.FOURS, Play.BALL, 0);
        x.image();
        Play.type(x, Play.FOURS);
        due("typed, not read", x.restore(), 1);
        x.letter('4');
        due("none was read", x.lawn(), Play.STATE);
        due("so it is kept", x.restore(), 1);
        x.blank();
        Play.read(x, Play.FOURS);
        due("of the same text", x.restore(), Play.STATE);
        due("no ball comes back", x.count(1), 0);
        due("another image", x.image(), 0);
        due("is kept", x.restore(), 0);
        Play.read(x, Play.NINES);
        due("of another text", x.restore(), Play.STATE);
    }

    private static void countsOutside() {
        SnowBalls x = Play.on(Play.FOURS);
        for (int what : new int[] {-1, 12, Play.MIN, Play.MAX}) due("what " + what, x.count(what), Play.OUTSIDE);
        due("the least", x.count(0), 80);
        due("the greatest", x.count(11), 0);
    }

    private static void depthsTogether() {
        due("without a lawn", new SnowBalls().count(0), 0);
        due("none", Play.on(Play.GREEN).count(0), 0);
        due("the most", Play.on(Play.NINES).count(0), 180);
        SnowBalls x = Play.withBalls(Play.FOURS, Play.DRUM, 0);
        x.roll(0, Play.RIGHT);
        due("less two", x.count(0), 78);
    }

    private static void ballsAndGoneOnes() {
        SnowBalls x = Play.on(Play.FOURS);
        due("none", x.count(1) * 10 + x.count(2), 0);
        for (int i = 0; i < 4; i++) x.ball(Play.BALL, i);
        due("four, none of them gone", x.count(1) * 10 + x.count(2), 40);
        Play.rolls(x, 3, "r");
        x.day(1);
        due("four, three of them gone", x.count(1) * 10 + x.count(2), 43);
        x.day(1);
        due("four, all of them gone", x.count(1) * 10 + x.count(2), 44);
    }

    private static void greenPlaces() {
        due("without a lawn", new SnowBalls().count(3), 0);
        due("all", Play.on(Play.GREEN).count(3), 20);
        due("none", Play.on(Play.NINES).count(3), 0);
        SnowBalls x = Play.withBalls("10111/11111/11111/11111;9", Play.BALL, 0);
        due("one", x.count(3), 1);
        x.roll(0, Play.DOWN);
        due("a strip behind it", x.count(3), 2);
        Play.type(x, "00000");
        x.lawn();
        due("of the lawn, not of the page", x.count(3), 2);
    }

    private static void wetnessToSizes() {
        for (int what = 4; what < 8; what++) due("without a lawn " + what, new SnowBalls().count(what), what == 5 ? 20 : 0);
        SnowBalls x = Play.nines(9);
        due("wetness", x.count(4), 9);
        x.strength(99);
        due("strength", x.count(5), 99);
        for (int i = 0; i < 3; i++) x.day(0);
        due("days", x.count(6), 3);
        x.day(10);
        due("no day that was none", x.count(6), 3);
        due("no sizes", x.count(7), 0);
        Play.rolled(x, Play.BALL, 0, "rr");
        x.ball(Play.SLUSH, 10);
        due("sizes, not weights", x.count(7), 3 + 1);
        x.day(1);
        due("without the gone one", x.count(7), 2);
    }

    private static void lettersAndLawns() {
        SnowBalls x = new SnowBalls();
        for (int many = 1; many <= 26; many++) {
            x.letter('4');
            due("letters", x.count(8), many);
        }
        x.lawn();
        due("a page that is none", x.count(9), 0);
        x.blank();
        for (int many = 1; many <= 5; many++) {
            Play.read(x, Play.FOURS);
            due("lawns", x.count(9), many);
        }
        x.image();
        x.restore();
        due("restored is not read", x.count(9), 5);
    }

    private static void searchesAndBooks() {
        SnowBalls x = Play.withBalls(Play.FOURS, Play.BALL, 0);
        x.largest(0, 0, 0);
        due("one", x.count(10), 1);
        x.comes(0, 19);
        due("NONE is done, too", x.count(10), 2);
        x.largest(0, 7, 0);
        x.largest(1, 0, 0);
        x.comes(0, 20);
        due("what is refused is not", x.count(10), 2);
        due("no book yet", x.count(11), 0);
        x.book(Play.BALL, 0, 0, 0);
        due("0 is done, too", x.count(11), 1);
        x.book(Play.BALL, 0, 6, 0);
        due("what is refused is not", x.count(11), 1);
        due("apart", x.count(10), 2);
    }

    private static long over(long h, long... numbers) {
        for (long number : numbers) h = 31 * h + number;
        return h;
    }

    private static void digestOfANewOne() {
        due("new", new SnowBalls().digest(), over(727, -1, -1, -1, 0, 0, 0, 0, 0, 20, 0, 0, 0, 0, 0, 0));
        SnowBalls x = new SnowBalls();
        due("the same again", x.digest() - x.digest(), 0);
    }

    private static void digestWraps() {
        long h = 727;
        for (int place = 0; place < 20; place++) h = over(h, 9, -1, 0);
        h = over(h, -1, -1, -1, 180, 0, 0, 0, 9, 20, 0, 0, 0, 1, 0, 0);
        due("a lawn of nines", Play.on(Play.NINES).digest(), h);
    }

    private static void digestOfPlaces() {
        SnowBalls x = Play.on(Play.STEPS);
        due("no balls", x.digest(), Play.digestOf(x, ""));
        SnowBalls stack = Play.stackOfTwo();
        due("a stack", stack.digest(), Play.digestOf(stack, ""));
        SnowBalls same = Play.withBalls(Play.NINES, Play.BALL, 1, 0);
        SnowBalls other = Play.withBalls(Play.NINES, Play.BALL, 0, 1);
        due("who stands where", same.digest() == other.digest() ? 1 : 0, 0);
    }

    private static void digestOfBalls() {
        for (int kind = 0; kind < 5; kind++) {
            SnowBalls x = Play.withBalls(Play.FOURS, kind, 0, 12, 19);
            due("kind " + kind, x.digest(), Play.digestOf(x, ""));
            SnowBalls y = Play.withBalls(Play.FOURS, kind, 0, 12, 19);
            Play.rolls(y, 1, "ul");
            y.day(1);
            due("kind " + kind + ", gone ones, too", y.digest(), Play.digestOf(y, ""));
        }
        SnowBalls highest = Play.on(Play.NINES);
        for (int i = 0; i < 3; i++) Play.rolled(highest, Play.BALL, 5 * i, "rrrr".substring(i));
        due("with a highest three", highest.digest(), Play.digestOf(highest, ""));
        due("whose height and bits differ", highest.highest(0) * 10 + highest.highest(1), 57);
        highest.largest(0, 1, 0);
        highest.book(0, 4, 0, 1);
        due("with what was done", highest.digest(), Play.digestOf(highest, ""));
    }

    private static void digestOfLetters() {
        for (String page : new String[] {" ", "~", "~ ", " ~", "abcdefghijklmnopqrstuvwxyz"}) {
            SnowBalls x = new SnowBalls();
            Play.type(x, page);
            due("page '" + page + "'", x.digest(), Play.digestOf(x, page));
            x.blank();
            due("blanked", x.digest(), new SnowBalls().digest());
        }
    }
}
