import java.util.ArrayList;
import java.util.List;
import java.util.function.Supplier;

/**
 * Refusals: of several the first as told by each call, and none changes anything.
 * Each call is asked of one object and not of its twin; all that can be told of both must then be the same.
 */
public final class RefusalTest {
    private static final Check CHECK = new Check();
    private static final int[] NO_PLACE = {-1, 20, Play.MIN, Play.MAX};
    private static final int[] NO_KIND = {-1, 5, Play.MIN, Play.MAX};
    private static final int[] NO_SIDE = {-1, 4, Play.MIN, Play.MAX};
    private static final int[] NO_BALL = {-1, 4, Play.MIN, Play.MAX};

    public static void main(String[] args) {
        CHECK.sentence("3 they change nothing", RefusalTest::gameIsAsTold);
        CHECK.sentence("2 OUTSIDE: code (32 to 126); FULL: above 26", RefusalTest::letter);
        CHECK.sentence("5 STATE: it is none", RefusalTest::lawn);
        CHECK.sentence("6 UNKNOWN; OUTSIDE; STATE: no LAWN", RefusalTest::place);
        CHECK.sentence("7 OUTSIDE: v (1 to 99); STATE: no LAWN", RefusalTest::strength);
        CHECK.sentence("8 UNKNOWN: place; OUTSIDE: kind; STATE: no LAWN, or a BALL is there; FULL", RefusalTest::ball);
        CHECK.sentence("9 UNKNOWN; OUTSIDE", RefusalTest::about);
        CHECK.sentence("10 UNKNOWN; OUTSIDE", RefusalTest::as);
        CHECK.sentence("11 UNKNOWN: ball; OUTSIDE: side", RefusalTest::may);
        CHECK.sentence("12 UNKNOWN: ball; OUTSIDE: side; STATE: it can't be", RefusalTest::roll);
        CHECK.sentence("13 UNKNOWN: a, b, or they are the same; STATE: it can't be", RefusalTest::lift);
        CHECK.sentence("14 OUTSIDE: sun (0 to 9); STATE: no LAWN", RefusalTest::day);
        CHECK.sentence("15 UNKNOWN; OUTSIDE: rolls (0 to 6), what; STATE: it is GONE, or", RefusalTest::largest);
        CHECK.sentence("16 UNKNOWN: ball, place; STATE, as largest()", RefusalTest::comes);
        CHECK.sentence("17 OUTSIDE", RefusalTest::highest);
        CHECK.sentence("18 OUTSIDE: sun (1 to 9)", RefusalTest::lasts);
        CHECK.sentence("19 OUTSIDE: kind; UNKNOWN: place; OUTSIDE: rolls, size (0 to 99); STATE: no LAWN, or", RefusalTest::book);
        CHECK.sentence("20 OUTSIDE: times (1 to 60), seed (0 at least), what; STATE: no LAWN, or there are no BALLS", RefusalTest::games);
        CHECK.sentence("21 STATE: no LAWN", () -> refused(FRESH, Play.STATE, "image"));
        CHECK.sentence("22 STATE: none was kept, or a LAWN was read since", RefusalTest::restore);
        CHECK.sentence("23 OUTSIDE", RefusalTest::count);
        CHECK.end();
    }

    private static final Supplier<SnowBalls> NEW = SnowBalls::new;

    private static final Supplier<SnowBalls> FRESH = () -> {
        SnowBalls x = new SnowBalls();
        Play.type(x, "444");
        return x;
    };

    private static final Supplier<SnowBalls> BARE = () -> Play.on(Play.STEPS);

    /** Ball 0 bears ball 1; ball 2 is gone; ball 3 is a DRUM that sticks to its row. An IMAGE, days, a page. */
    private static final Supplier<SnowBalls> GAME = () -> {
        SnowBalls x = Play.on(Play.NINES);
        Play.rolled(x, Play.BALL, 0, "rlr");
        Play.rolled(x, Play.BALL, 3, "l");
        x.lift(1, 0);
        x.ball(Play.WET, 19);
        Play.rolled(x, Play.DRUM, 5, "r");
        x.image();
        x.day(1);
        x.strength(8);
        x.largest(3, 2, 0);
        x.comes(3, 7);
        x.book(Play.SLUSH, 18, 2, 3);
        Play.type(x, "99999/99999/99");
        return x;
    };

    private static final Supplier<SnowBalls> FULL_PAGE = () -> {
        SnowBalls x = GAME.get();
        Play.type(x, "zzzzzzzzzzzz");
        return x;
    };

    /** As GAME, with largest(), comes() done 60 times together, and book() 60 times. */
    private static final Supplier<SnowBalls> SPENT = () -> {
        SnowBalls x = GAME.get();
        for (int i = x.count(10); i < 60; i++) x.comes(3, 6);
        for (int i = x.count(11); i < 60; i++) x.book(Play.BALL, 0, 0, 1);
        return x;
    };

    /** An IMAGE was kept of a lawn that is not the one now. */
    private static final Supplier<SnowBalls> READ_SINCE = () -> {
        SnowBalls x = Play.withBalls(Play.NINES, Play.BALL, 0);
        x.image();
        Play.read(x, Play.NINES);
        x.ball(Play.BALL, 1);
        return x;
    };

    private static long ask(SnowBalls x, String call, int... a) {
        switch (call) {
            case "letter": return x.letter(a[0]);
            case "lawn": return x.lawn();
            case "place": return x.place(a[0], a[1]);
            case "strength": return x.strength(a[0]);
            case "ball": return x.ball(a[0], a[1]);
            case "about": return x.about(a[0], a[1]);
            case "as": return x.as(a[0], a[1]);
            case "may": return x.may(a[0], a[1]);
            case "roll": return x.roll(a[0], a[1]);
            case "lift": return x.lift(a[0], a[1]);
            case "day": return x.day(a[0]);
            case "largest": return x.largest(a[0], a[1], a[2]);
            case "comes": return x.comes(a[0], a[1]);
            case "highest": return x.highest(a[0]);
            case "lasts": return x.lasts(a[0]);
            case "book": return x.book(a[0], a[1], a[2], a[3]);
            case "games": return x.games(a[0], a[1], a[2]);
            case "image": return x.image();
            case "restore": return x.restore();
            case "count": return x.count(a[0]);
            default: throw new IllegalArgumentException(call);
        }
    }

    /** All that can be told of an object: as it is, of its page, behind restore(), and on another lawn. */
    private static List<Long> toldOf(SnowBalls x) {
        List<Long> told = new ArrayList<>();
        told.add(x.digest());
        for (int what = 0; what < 12; what++) told.add((long) x.count(what));
        for (int ball = 0; ball < 4; ball++) for (int what = 0; what < 7; what++) told.add((long) x.about(ball, what));
        for (int place = 0; place < 20; place++) told.add((long) x.place(place, 0));
        told.add((long) x.fault());
        told.add((long) x.restore());
        told.add(x.digest());
        told.add((long) x.blank());
        told.add((long) Play.read(x, Play.FOURS));
        told.add(x.digest());
        told.add((long) x.restore());
        return told;
    }

    private static void refused(Supplier<SnowBalls> made, int due, String call, int... numbers) {
        SnowBalls x = made.get();
        StringBuilder what = new StringBuilder(call);
        for (int number : numbers) what.append(' ').append(number);
        CHECK.due(what.toString(), ask(x, call, numbers), due);
        CHECK.due("changes nothing: " + what, toldOf(x).equals(toldOf(made.get())) ? 1 : 0, 1);
    }

    /** What is refused below is refused for the reason that is meant only if the state is the one that is meant. */
    private static void gameIsAsTold() {
        SnowBalls x = GAME.get();
        CHECK.due("ball 1 is on ball 0", x.about(1, 3), 0);
        CHECK.due("on place 1", x.place(1, 1), 0);
        CHECK.due("ball 2 is gone", x.about(2, 1), 0);
        CHECK.due("ball 3 sticks to its row", x.about(3, 6), 1);
        CHECK.due("and may be rolled in it", x.may(3, Play.LEFT) + x.may(3, Play.RIGHT), 2);
        CHECK.due("a page that is no lawn", x.fault(), 14);
        CHECK.due("an image", x.restore(), 4);
        CHECK.due("the page is full", FULL_PAGE.get().count(8), 26);
        CHECK.due("60 were done", SPENT.get().count(10), 60);
        CHECK.due("60 books were done", SPENT.get().count(11), 60);
    }

    private static void letter() {
        for (int code : new int[] {31, 127, -1, 65536 + 52, Play.MIN, Play.MAX}) {
            refused(NEW, Play.OUTSIDE, "letter", code);
            refused(GAME, Play.OUTSIDE, "letter", code);
            refused(FULL_PAGE, Play.OUTSIDE, "letter", code);
        }
        for (int code : new int[] {32, '4', 126}) refused(FULL_PAGE, Play.FULL, "letter", code);
    }

    private static void lawn() {
        for (Supplier<SnowBalls> made : List.of(NEW, FRESH, BARE, GAME, FULL_PAGE)) refused(made, Play.STATE, "lawn");
        for (String wrong : new String[] {Play.FOURS + "4", Play.FOURS.substring(1), Play.FOURS.replace(';', '/')}) {
            refused(() -> {
                SnowBalls x = Play.withBalls(Play.STEPS, Play.BALL, 9);
                x.image();
                Play.type(x, wrong);
                return x;
            }, Play.STATE, "lawn");
        }
    }

    private static void place() {
        for (Supplier<SnowBalls> made : List.of(NEW, GAME)) {
            for (int place : NO_PLACE) for (int what : new int[] {0, 2, 3, -1}) refused(made, Play.UNKNOWN, "place", place, what);
            for (int what : new int[] {-1, 3, Play.MIN, Play.MAX}) refused(made, Play.OUTSIDE, "place", 19, what);
        }
        for (int what = 0; what < 3; what++) refused(FRESH, Play.STATE, "place", 0, what);
    }

    private static void strength() {
        for (Supplier<SnowBalls> made : List.of(NEW, GAME)) {
            for (int v : new int[] {0, 100, -1, Play.MIN, Play.MAX}) refused(made, Play.OUTSIDE, "strength", v);
        }
        for (int v : new int[] {1, 99}) refused(FRESH, Play.STATE, "strength", v);
    }

    private static void ball() {
        for (Supplier<SnowBalls> made : List.of(NEW, BARE, GAME)) {
            for (int place : NO_PLACE) for (int kind : new int[] {0, 4, 5, -1}) refused(made, Play.UNKNOWN, "ball", kind, place);
            for (int kind : NO_KIND) for (int place : new int[] {1, 19}) refused(made, Play.OUTSIDE, "ball", kind, place);
        }
        refused(FRESH, Play.STATE, "ball", Play.BALL, 0);
        for (int place : new int[] {1, 6}) refused(GAME, Play.STATE, "ball", Play.SLUSH, place);
        refused(READ_SINCE, Play.STATE, "ball", Play.BALL, 1);
        for (int place : new int[] {0, 2, 19}) refused(GAME, Play.FULL, "ball", Play.SLUSH, place);
    }

    private static void about() {
        for (int ball : NO_BALL) for (int what : new int[] {0, 6, 7, -1}) refused(GAME, Play.UNKNOWN, "about", ball, what);
        for (int what : new int[] {0, 7}) refused(BARE, Play.UNKNOWN, "about", 0, what);
        for (int ball = 0; ball < 4; ball++) {
            for (int what : new int[] {-1, 7, Play.MIN, Play.MAX}) refused(GAME, Play.OUTSIDE, "about", ball, what);
        }
        refused(NEW, Play.UNKNOWN, "about", 0, 0);
    }

    private static void as() {
        for (int ball : NO_BALL) for (int kind : new int[] {0, 4, 5, -1}) refused(GAME, Play.UNKNOWN, "as", ball, kind);
        for (int kind : new int[] {0, 5}) refused(BARE, Play.UNKNOWN, "as", 0, kind);
        for (int ball = 0; ball < 4; ball++) for (int kind : NO_KIND) refused(GAME, Play.OUTSIDE, "as", ball, kind);
        refused(NEW, Play.UNKNOWN, "as", 0, 0);
    }

    private static void may() {
        for (int ball : NO_BALL) for (int side : new int[] {0, 3, 4, -1}) refused(GAME, Play.UNKNOWN, "may", ball, side);
        for (int side : new int[] {0, 4}) refused(BARE, Play.UNKNOWN, "may", 0, side);
        for (int ball = 0; ball < 4; ball++) for (int side : NO_SIDE) refused(GAME, Play.OUTSIDE, "may", ball, side);
        refused(NEW, Play.UNKNOWN, "may", 0, 0);
    }

    private static void roll() {
        for (int ball : NO_BALL) for (int side : new int[] {0, 3, 4, -1}) refused(GAME, Play.UNKNOWN, "roll", ball, side);
        for (int side : new int[] {0, 4}) refused(BARE, Play.UNKNOWN, "roll", 0, side);
        for (int ball = 0; ball < 4; ball++) for (int side : NO_SIDE) refused(GAME, Play.OUTSIDE, "roll", ball, side);
        for (int ball = 0; ball < 3; ball++) for (int side = 0; side < 4; side++) refused(GAME, Play.STATE, "roll", ball, side);
        for (int side : new int[] {Play.UP, Play.DOWN}) refused(GAME, Play.STATE, "roll", 3, side);
        for (int side : new int[] {Play.UP, Play.LEFT}) {
            refused(() -> Play.withBalls(Play.NINES, Play.DRUM, 0), Play.STATE, "roll", 0, side);
        }
        refused(() -> Play.withBalls(Play.NINES, Play.DRUM, 0, 1), Play.STATE, "roll", 0, Play.RIGHT);
        refused(() -> {
            SnowBalls x = Play.withBalls(Play.NINES, Play.WET, 0);
            x.strength(1);
            return x;
        }, Play.STATE, "roll", 0, Play.RIGHT);
    }

    private static void lift() {
        for (int ball : NO_BALL) {
            for (int other = 0; other < 4; other++) {
                refused(GAME, Play.UNKNOWN, "lift", ball, other);
                refused(GAME, Play.UNKNOWN, "lift", other, ball);
            }
        }
        for (int ball = 0; ball < 4; ball++) refused(GAME, Play.UNKNOWN, "lift", ball, ball);
        refused(BARE, Play.UNKNOWN, "lift", 0, 1);
        refused(NEW, Play.UNKNOWN, "lift", 0, 1);
        for (int a = 0; a < 4; a++) for (int b = 0; b < 4; b++) if (a != b) refused(GAME, Play.STATE, "lift", a, b);
        for (int[] places : new int[][] {{0, 1}, {0, 6}, {4, 5}, {0, 19}}) {
            refused(() -> Play.withBalls(Play.NINES, Play.BALL, places), Play.STATE, "lift", 0, 1);
        }
        refused(() -> {
            SnowBalls x = Play.withBalls(Play.NINES, Play.BALL, 0);
            Play.rolled(x, Play.BALL, 2, "l");
            x.strength(1);
            return x;
        }, Play.STATE, "lift", 0, 1);
    }

    private static void day() {
        for (Supplier<SnowBalls> made : List.of(NEW, BARE, GAME)) {
            for (int sun : new int[] {-1, 10, Play.MIN, Play.MAX}) refused(made, Play.OUTSIDE, "day", sun);
        }
        for (int sun : new int[] {0, 9}) refused(FRESH, Play.STATE, "day", sun);
    }

    private static void largest() {
        for (Supplier<SnowBalls> made : List.of(GAME, SPENT)) {
            for (int ball : NO_BALL) for (int rolls : new int[] {0, 6, 7}) for (int what : new int[] {0, 2}) {
                refused(made, Play.UNKNOWN, "largest", ball, rolls, what);
            }
            for (int ball = 2; ball < 4; ball++) {
                for (int rolls : new int[] {-1, 7, Play.MIN, Play.MAX}) refused(made, Play.OUTSIDE, "largest", ball, rolls, 0);
                for (int what : new int[] {-1, 2, Play.MIN, Play.MAX}) refused(made, Play.OUTSIDE, "largest", ball, 6, what);
            }
            for (int what = 0; what < 2; what++) refused(made, Play.STATE, "largest", 2, 6, what);
        }
        refused(NEW, Play.UNKNOWN, "largest", 0, 0, 0);
        refused(BARE, Play.UNKNOWN, "largest", 0, 7, 0);
        for (int ball = 0; ball < 4; ball++) refused(SPENT, Play.STATE, "largest", ball, 0, 1);
    }

    private static void comes() {
        for (Supplier<SnowBalls> made : List.of(GAME, SPENT)) {
            for (int ball : NO_BALL) for (int place : new int[] {0, 20}) refused(made, Play.UNKNOWN, "comes", ball, place);
            for (int ball = 2; ball < 4; ball++) for (int place : NO_PLACE) refused(made, Play.UNKNOWN, "comes", ball, place);
            for (int place : new int[] {0, 19}) refused(made, Play.STATE, "comes", 2, place);
        }
        refused(NEW, Play.UNKNOWN, "comes", 0, 0);
        refused(BARE, Play.UNKNOWN, "comes", 0, 0);
        for (int ball = 0; ball < 4; ball++) refused(SPENT, Play.STATE, "comes", ball, 6);
    }

    private static void highest() {
        for (Supplier<SnowBalls> made : List.of(NEW, BARE, GAME)) {
            for (int what : new int[] {-1, 2, Play.MIN, Play.MAX}) refused(made, Play.OUTSIDE, "highest", what);
        }
    }

    private static void lasts() {
        for (Supplier<SnowBalls> made : List.of(NEW, BARE, GAME)) {
            for (int sun : new int[] {0, 10, -1, Play.MIN, Play.MAX}) refused(made, Play.OUTSIDE, "lasts", sun);
        }
    }

    private static void book() {
        for (Supplier<SnowBalls> made : List.of(NEW, GAME, SPENT)) {
            for (int kind : NO_KIND) for (int place : new int[] {0, 20}) for (int rolls : new int[] {0, 6}) {
                refused(made, Play.OUTSIDE, "book", kind, place, rolls, 1);
            }
            for (int place : NO_PLACE) for (int rolls : new int[] {0, 6}) for (int size : new int[] {0, 100}) {
                refused(made, Play.UNKNOWN, "book", Play.SLUSH, place, rolls, size);
            }
            for (int rolls : new int[] {-1, 6, Play.MIN, Play.MAX}) refused(made, Play.OUTSIDE, "book", Play.BALL, 0, rolls, 1);
            for (int size : new int[] {-1, 100, Play.MIN, Play.MAX}) refused(made, Play.OUTSIDE, "book", Play.BALL, 0, 5, size);
        }
        refused(FRESH, Play.STATE, "book", Play.BALL, 0, 5, 6);
        refused(SPENT, Play.STATE, "book", Play.BALL, 0, 5, 6);
    }

    private static void games() {
        for (Supplier<SnowBalls> made : List.of(NEW, BARE, GAME)) {
            for (int times : new int[] {0, 61, -1, Play.MIN, Play.MAX}) refused(made, Play.OUTSIDE, "games", times, 1, 0);
            for (int seed : new int[] {-1, Play.MIN}) refused(made, Play.OUTSIDE, "games", 60, seed, 3);
            for (int what : new int[] {-1, 4, Play.MIN, Play.MAX}) refused(made, Play.OUTSIDE, "games", 1, 0, what);
        }
        for (int what = 0; what < 4; what++) {
            refused(FRESH, Play.STATE, "games", 60, 5, what);
            refused(BARE, Play.STATE, "games", 60, 5, what);
        }
    }

    private static void restore() {
        refused(NEW, Play.STATE, "restore");
        refused(BARE, Play.STATE, "restore");
        refused(READ_SINCE, Play.STATE, "restore");
        refused(() -> Play.withBalls(Play.NINES, Play.BALL, 0), Play.STATE, "restore");
    }

    private static void count() {
        for (Supplier<SnowBalls> made : List.of(NEW, BARE, GAME)) {
            for (int what : new int[] {-1, 12, Play.MIN, Play.MAX}) refused(made, Play.OUTSIDE, "count", what);
        }
    }
}
