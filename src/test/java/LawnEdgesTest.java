/** The edges of a lawn, its page and its places: a test for each sentence that names one (terms 1, promises 1 to 7). */
public final class LawnEdgesTest {
    private static final Check CHECK = new Check();

    public static void main(String[] args) {
        CHECK.sentence("1 No LAWN", LawnEdgesTest::aNewOneHasNoLawn);
        CHECK.sentence("1 STRENGTH 20", () -> due("strength", new SnowBalls().count(5), 20));
        CHECK.sentence("2 A letter comes behind THE PAGE, told by its code: how many THE PAGE has", LawnEdgesTest::lettersAreCounted);
        CHECK.sentence("2 OUTSIDE: code (32 to 126)", LawnEdgesTest::codesOutside);
        CHECK.sentence("2 FULL: above 26", LawnEdgesTest::pageIsFull);
        CHECK.sentence("3 THE PAGE is empty: how many letters it had", LawnEdgesTest::pageIsBlanked);
        CHECK.sentence("4 the first letter of THE PAGE that no LAWN has there", LawnEdgesTest::wrongLetterAtEachPlace);
        CHECK.sentence("4 the first letter", LawnEdgesTest::firstOfTwoFaults);
        CHECK.sentence("4 behind those ahead of it", LawnEdgesTest::faultOfTheTwentySixth);
        CHECK.sentence("4 how many letters it has, if there is none", LawnEdgesTest::startsWithoutFault);
        CHECK.sentence("1 each of five digits (0 to 9: DEPTH)", LawnEdgesTest::leastAndGreatestDepths);
        CHECK.sentence("1 a digit WETNESS (0 to 9)", LawnEdgesTest::leastAndGreatestWetness);
        CHECK.sentence("1 PLACES are 0 to 19, row by row (0 to 4 the first one, from the left)", LawnEdgesTest::placesRowByRow);
        CHECK.sentence("5 another one is gone, with BALLS, DAYS", LawnEdgesTest::anotherLawnIsGone);
        CHECK.sentence("5 (another one is gone, with BALLS, DAYS; STRENGTH is 20)", LawnEdgesTest::nothingOfTheOtherStays);
        CHECK.sentence("5 STRENGTH is 20", LawnEdgesTest::strengthIsTwentyAgain);
        CHECK.sentence("5 THE PAGE is empty then", LawnEdgesTest::pageIsEmptyThen);
        CHECK.sentence("5 STATE: it is none", LawnEdgesTest::noLawnOnThePage);
        CHECK.sentence("6 Of a PLACE", LawnEdgesTest::placesThatAreNone);
        CHECK.sentence("6 what = 0 DEPTH, 1 the BALL that stands on it itself (NONE), 2 HEIGHT", LawnEdgesTest::whatsThatAreNone);
        CHECK.sentence("6 the BALL that stands on it itself (NONE)", LawnEdgesTest::ballOnThePlaceItself);
        CHECK.sentence("6 STATE: no LAWN", LawnEdgesTest::noPlaceWithoutLawn);
        CHECK.sentence("1 for each BALL there the greatest number whose square is no more than its SIZE, together",
            LawnEdgesTest::heightOfEachSize);
        CHECK.sentence("7 STRENGTH becomes v: what it was", LawnEdgesTest::strengthWas);
        CHECK.sentence("7 OUTSIDE: v (1 to 99)", LawnEdgesTest::strengthsOutside);
        CHECK.sentence("7 STATE: no LAWN", LawnEdgesTest::noStrengthWithoutLawn);
        CHECK.end();
    }

    private static void due(String what, long got, long want) {
        CHECK.due(what, got, want);
    }

    private static void aNewOneHasNoLawn() {
        SnowBalls x = new SnowBalls();
        due("place", x.place(0, 0), Play.STATE);
        due("strength", x.strength(20), Play.STATE);
        due("ball", x.ball(Play.BALL, 0), Play.STATE);
        due("day", x.day(0), Play.STATE);
        due("book", x.book(Play.BALL, 0, 0, 1), Play.STATE);
        due("games", x.games(1, 0, 0), Play.STATE);
        due("image", x.image(), Play.STATE);
        due("restore", x.restore(), Play.STATE);
        due("about", x.about(0, 0), Play.UNKNOWN);
        due("highest", x.highest(0), Play.NONE);
        due("lasts", x.lasts(1), Play.NONE);
        due("page", x.blank(), 0);
        due("an empty page", x.lawn(), Play.STATE);
        for (int what = 0; what < 12; what++) due("count " + what, x.count(what), what == 5 ? 20 : 0);
    }

    private static void lettersAreCounted() {
        SnowBalls x = new SnowBalls();
        for (int many = 1; many <= 26; many++) due("letter " + many, x.letter(31 + many), many);
        due("all", x.count(8), 26);
    }

    private static void codesOutside() {
        SnowBalls x = new SnowBalls();
        for (int code : new int[] {31, 127, 0, -1, 10, 128, 255, 256 + 52, 65536 + 52, Play.MIN, Play.MIN + 52, Play.MAX}) {
            due("letter " + code, x.letter(code), Play.OUTSIDE);
        }
        due("none came", x.count(8), 0);
        due("the least", x.letter(32), 1);
        due("the greatest", x.letter(126), 2);
        due("both by their codes", x.digest(), Play.digestOf(x, " ~"));
    }

    private static void pageIsFull() {
        SnowBalls x = new SnowBalls();
        Play.type(x, "abcdefghijklmnopqrstuvwxy");
        due("the 26th", x.letter('z'), 26);
        due("the 27th", x.letter('!'), Play.FULL);
        due("the 28th", x.letter('4'), Play.FULL);
        due("26 are there", x.count(8), 26);
        due("the first 26", x.digest(), Play.digestOf(x, "abcdefghijklmnopqrstuvwxyz"));
        due("OUTSIDE of a full page", x.letter(31), Play.OUTSIDE);
        x.blank();
        due("behind blank", x.letter('4'), 1);
    }

    private static void pageIsBlanked() {
        SnowBalls x = new SnowBalls();
        due("an empty page", x.blank(), 0);
        x.letter('4');
        due("one", x.blank(), 1);
        due("none then", x.blank(), 0);
        Play.type(x, Play.NINES + "9");
        due("full", x.blank(), 26);
        due("empty", x.count(8), 0);
        due("no fault", x.fault(), 0);
        due("no lawn", x.lawn(), Play.STATE);
    }

    private static int faultOf(String page) {
        SnowBalls x = new SnowBalls();
        Play.type(x, page);
        return x.fault();
    }

    /** Each letter of a lawn, put wrong by the signs beside the right ones, and right by the outermost ones. */
    private static void wrongLetterAtEachPlace() {
        String lawn = Play.STEPS;
        for (int i = 0; i < 25; i++) {
            boolean slash = i == 5 || i == 11 || i == 17;
            String wrong = slash ? ".0;9 ~" : i == 23 ? ":</0~" : "/:; ~x";
            for (char letter : wrong.toCharArray()) {
                due("'" + letter + "' at " + i, faultOf(lawn.substring(0, i) + letter + lawn.substring(i + 1)), i);
                due("'" + letter + "' last at " + i, faultOf(lawn.substring(0, i) + letter), i);
            }
            String right = slash ? "/" : i == 23 ? ";" : "09";
            for (char letter : right.toCharArray()) {
                due("'" + letter + "' at " + i, faultOf(lawn.substring(0, i) + letter + lawn.substring(i + 1)), 25);
            }
        }
    }

    private static void firstOfTwoFaults() {
        due("at 0 and 24", faultOf("x0000/00000/00000/00000;x"), 0);
        due("at 5 and 23", faultOf("00000000000/00000/00000/0"), 5);
        due("at 24 and 25", faultOf("00000/00000/00000/00000;xx"), 24);
    }

    private static void faultOfTheTwentySixth() {
        for (char letter : "0/; ~".toCharArray()) due("'" + letter + "' behind a lawn", faultOf(Play.FOURS + letter), 25);
    }

    private static void startsWithoutFault() {
        for (int many = 0; many <= 25; many++) due(many + " letters", faultOf(Play.STEPS.substring(0, many)), many);
    }

    private static void leastAndGreatestDepths() {
        due("all 0", Play.read(new SnowBalls(), Play.GREEN), 0);
        due("all 9", Play.read(new SnowBalls(), Play.NINES), 180);
        due("0", Play.on(Play.GREEN).place(0, 0), 0);
        due("9", Play.on(Play.NINES).place(19, 0), 9);
    }

    private static void leastAndGreatestWetness() {
        for (int wetness = 0; wetness <= 9; wetness++) due("wetness " + wetness, Play.nines(wetness).count(4), wetness);
    }

    private static void placesRowByRow() {
        for (int place = 0; place < 20; place++) {
            int letter = place + place / 5;
            String lawn = Play.GREEN.substring(0, letter) + '7' + Play.GREEN.substring(letter + 1);
            SnowBalls x = new SnowBalls();
            due("together, 7 at " + place, Play.read(x, lawn), 7);
            for (int other = 0; other < 20; other++) due("7 at " + place + ", of " + other, x.place(other, 0), other == place ? 7 : 0);
        }
    }

    private static void anotherLawnIsGone() {
        SnowBalls x = Play.on(Play.NINES);
        Play.rolled(x, Play.DRUM, 6, "r");
        x.ball(Play.SLUSH, 0);
        x.day(0);
        x.day(1);
        due("two days", x.count(6), 2);
        due("another", Play.read(x, Play.STEPS), 90);
        due("no days", x.count(6), 0);
        due("no balls", x.count(1), 0);
        due("none gone", x.count(2), 0);
        due("no sizes", x.count(7), 0);
        due("no such ball", x.about(0, 0), Play.UNKNOWN);
        due("nobody there", x.place(7, 1), Play.NONE);
        due("its depths", x.place(7, 0), 7);
        due("its wetness", x.count(4), 4);
        due("read twice", x.count(9), 2);
        due("numbers from 0", x.ball(Play.DRUM, 7), 0);
        for (int side = 0; side < 4; side++) due("a new drum sticks to nothing " + side, x.may(0, side), 1);
    }

    /** A stack of three on place 8 and a DRUM that sticks to a column, none of them gone; then another lawn. */
    private static SnowBalls readOverFour(int balls) {
        SnowBalls x = Play.on(Play.NINES);
        x.strength(99);
        Play.rolled(x, Play.BALL, 7, "rlrlr");
        Play.rolled(x, Play.BALL, 3, "rlrl");
        Play.rolled(x, Play.BALL, 12, "rlr");
        x.lift(1, 0);
        x.lift(2, 1);
        Play.rolled(x, Play.DRUM, 0, "d");
        x.day(0);
        Play.read(x, Play.FOURS);
        for (int ball = 0; ball < balls; ball++) x.ball(Play.DRUM, 6 + ball);
        return x;
    }

    /** Such an object answers as a new one does on the same lawn, with none to four balls of its own. */
    private static void nothingOfTheOtherStays() {
        for (int balls = 0; balls <= 4; balls++) {
            SnowBalls x = readOverFour(balls);
            SnowBalls y = Play.on(Play.FOURS);
            for (int ball = 0; ball < balls; ball++) y.ball(Play.DRUM, 6 + ball);
            String what = " with " + balls;
            for (int i = 0; i < 9; i++) due("count " + i + what, x.count(i), y.count(i));
            for (int place = 0; place < 20; place++) {
                for (int i = 0; i < 3; i++) due("place " + place + ", " + i + what, x.place(place, i), y.place(place, i));
            }
            for (int ball = 0; ball < 4; ball++) {
                for (int i = 0; i < 7; i++) due("about " + ball + ", " + i + what, x.about(ball, i), y.about(ball, i));
                for (int side = 0; side < 4; side++) due("may " + ball + ", " + side + what, x.may(ball, side), y.may(ball, side));
            }
            for (int i = 0; i < 2; i++) due("highest " + i + what, x.highest(i), y.highest(i));
            due("lasts" + what, x.lasts(1), y.lasts(1));
            due("book" + what, x.book(Play.BALL, 8, 3, 4), y.book(Play.BALL, 8, 3, 4));
            for (int i = 0; i < 4; i++) due("games " + i + what, x.games(40, 3, i), y.games(40, 3, i));
            due("largest" + what, x.largest(0, 4, 0), y.largest(0, 4, 0));
            due("comes" + what, x.comes(0, 16), y.comes(0, 16));
            due("day" + what, x.day(0), y.day(0));
            due("last day" + what, x.day(9), y.day(9));
        }
    }

    private static void strengthIsTwentyAgain() {
        SnowBalls x = Play.on(Play.FOURS);
        due("of the first", x.count(5), 20);
        x.strength(99);
        Play.read(x, Play.FOURS);
        due("of the second", x.count(5), 20);
        x.strength(1);
        x.lawn();
        due("a page that is none leaves it", x.count(5), 1);
    }

    private static void pageIsEmptyThen() {
        SnowBalls x = Play.on(Play.FOURS);
        due("letters", x.count(8), 0);
        due("fault", x.fault(), 0);
        due("not read again", x.lawn(), Play.STATE);
        due("the next letter is the first", x.letter('4'), 1);
    }

    private static void noLawnOnThePage() {
        for (int many = 0; many < 25; many++) isNoLawn(Play.FOURS.substring(0, many));
        for (char letter : "4/; ".toCharArray()) isNoLawn(Play.FOURS + letter);
        for (int i = 0; i < 25; i++) isNoLawn(Play.FOURS.substring(0, i) + 'x' + Play.FOURS.substring(i + 1));
    }

    private static void isNoLawn(String page) {
        SnowBalls x = Play.withBalls(Play.STEPS, Play.WET, 9);
        Play.type(x, page);
        due("'" + page + "'", x.lawn(), Play.STATE);
        due("the page stays: '" + page + "'", x.count(8), page.length());
        due("the lawn stays", x.count(0), 90);
        due("its ball stays", x.place(9, 1), 0);
        due("read once", x.count(9), 1);
    }

    private static void placesThatAreNone() {
        SnowBalls x = Play.on(Play.STEPS);
        due("the first", x.place(0, 0), 0);
        due("the last", x.place(19, 0), 9);
        for (int place : new int[] {-1, 20, 25, Play.MIN, Play.MAX}) due("place " + place, x.place(place, 0), Play.UNKNOWN);
    }

    private static void whatsThatAreNone() {
        SnowBalls x = Play.withBalls(Play.STEPS, Play.BALL, 19);
        due("depth", x.place(19, 0), 9);
        due("ball", x.place(19, 1), 0);
        due("height", x.place(19, 2), 1);
        for (int what : new int[] {-1, 3, Play.MIN, Play.MAX}) due("what " + what, x.place(19, what), Play.OUTSIDE);
    }

    private static void ballOnThePlaceItself() {
        SnowBalls x = Play.stackOfTwo();
        due("the lower one", x.place(1, 1), 0);
        due("nobody where they came from", x.place(0, 1) + x.place(2, 1), 2 * Play.NONE);
        due("height of nobody", x.place(0, 2), 0);
        x.day(1);
        due("the lower one stays", x.place(1, 1), 0);
        x.day(1);
        due("gone", x.place(1, 1), Play.NONE);
        due("without height", x.place(1, 2), 0);
        SnowBalls y = Play.on(Play.NINES);
        y.ball(Play.BALL, 2);
        Play.rolled(y, Play.BALL, 0, "r");
        y.lift(0, 1);
        due("the lower one has the greater number", y.place(1, 1), 1);
    }

    private static void noPlaceWithoutLawn() {
        for (int what = 0; what < 3; what++) due("what " + what, new SnowBalls().place(19, what), Play.STATE);
    }

    /** One of SIZE 49 melts day by day, so that each size from 49 down to 0 is met. */
    private static void heightOfEachSize() {
        SnowBalls x = Play.on(Play.NINES);
        x.strength(99);
        x.ball(Play.BALL, 0);
        due("the largest", Play.rolls(x, 0, Play.ALONG), 49);
        for (int size = 49; size >= 0; size--) {
            due("size " + size, x.place(15, 2), Play.root(size));
            x.day(1);
        }
        SnowBalls y = Play.on(Play.NINES);
        Play.rolled(y, Play.BALL, 5, "rrr");
        Play.rolled(y, Play.BALL, 2, "r");
        due("4 and 2, each for itself", y.lift(1, 0), 2 + 1);
        due("told of the place", y.place(8, 2), 3);
    }

    private static void strengthWas() {
        SnowBalls x = Play.on(Play.FOURS);
        due("20 at first", x.strength(7), 20);
        due("then 7", x.strength(7), 7);
        due("still 7", x.strength(8), 7);
        due("8 is told", x.count(5), 8);
    }

    private static void strengthsOutside() {
        SnowBalls x = Play.on(Play.FOURS);
        for (int v : new int[] {0, 100, -1, Play.MIN, Play.MAX}) due("strength " + v, x.strength(v), Play.OUTSIDE);
        due("20 stays", x.count(5), 20);
        due("the least", x.strength(1), 20);
        due("the greatest", x.strength(99), 1);
        due("99 is told", x.count(5), 99);
    }

    private static void noStrengthWithoutLawn() {
        SnowBalls x = new SnowBalls();
        due("20", x.strength(20), Play.STATE);
        due("99", x.strength(99), Play.STATE);
        due("20 stays", x.count(5), 20);
    }
}
