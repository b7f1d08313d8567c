/** Balls of snow on a lawn: rolled, lifted, melted; and what would become of them. */
public final class SnowBalls {
    public static final int NONE = -1, UNKNOWN = -101, OUTSIDE = -102, STATE = -103, FULL = -104;

    private static final int ROWS = 4;
    private static final int COLUMNS = 5;
    private static final int PLACES = 20;
    private static final int SIDES = 4;
    private static final int MOST_BALLS = 4;
    /** The slot of a ball that is on the lawn only in thought: it is in nobody's way. */
    private static final int GUEST = MOST_BALLS;
    private static final int FIRST_STRENGTH = 20;
    private static final int MOST_STRENGTH = 99;
    private static final int MOST_SUN = 9;
    private static final int MOST_STACKED = 3;
    private static final int MOST_LETTERS = 26;
    private static final int LAWN_LETTERS = 25;
    private static final int SEMICOLON_AT = 23;
    private static final int WETNESS_AT = 24;
    private static final int MOST_ROLLS = 6;
    private static final int MOST_BOOK_ROLLS = 5;
    private static final int MOST_BOOK_SIZE = 99;
    private static final int MOST_SEARCHES = 60;
    private static final int MOST_TIMES = 60;
    /** Far above the root of all the snow that there can be. */
    private static final int MOST_ROOT = 1000;
    private static final int COUNTS = 12;
    private static final int ABOUTS = 7;
    private static final Kind[] KINDS = Kind.values();

    private final char[] page;
    private final Lawn now;
    private final Lawn kept;
    private final Lawn trial;
    private final Largest largestSearch;
    private final Arrival arrivalSearch;
    private final Ways waysSearch;
    private int letters;
    private int lawnsRead;
    private int searches;
    private int books;
    private boolean hasImage;

    public SnowBalls() {
        page = new char[MOST_LETTERS];
        now = new Lawn();
        kept = new Lawn();
        trial = new Lawn();
        largestSearch = new Largest();
        arrivalSearch = new Arrival();
        waysSearch = new Ways();
    }

    // ---- the lawn

    public int letter(int code) {
        if (isOutside(code, 32, 126)) return OUTSIDE;
        if (letters >= MOST_LETTERS) return FULL;
        page[letters] = (char) code;
        letters++;
        return letters;
    }

    public int blank() {
        int had = letters;
        letters = 0;
        return had;
    }

    public int fault() {
        for (int i = 0; i < letters; i++) {
            if (!belongsAt(i, page[i])) return i;
        }
        return letters;
    }

    public int lawn() {
        if (letters != LAWN_LETTERS || fault() != LAWN_LETTERS) return STATE;
        now.clear();
        for (int place = 0; place < PLACES; place++) {
            now.depths[place] = page[letterOf(place)] - '0';
        }
        now.wetness = page[WETNESS_AT] - '0';
        letters = 0;
        lawnsRead++;
        hasImage = false;
        return now.allDepths();
    }

    public int place(int place, int what) {
        if (!isPlace(place)) return UNKNOWN;
        if (isOutside(what, 0, 2)) return OUTSIDE;
        if (!hasLawn()) return STATE;
        if (what == 0) return now.depths[place];
        return what == 1 ? now.lowestAt(place) : now.heightAt(place);
    }

    public int strength(int v) {
        if (isOutside(v, 1, MOST_STRENGTH)) return OUTSIDE;
        if (!hasLawn()) return STATE;
        int was = now.strength;
        now.strength = v;
        return was;
    }

    // ---- balls

    public int ball(int kind, int place) {
        if (!isPlace(place)) return UNKNOWN;
        if (!isKind(kind)) return OUTSIDE;
        if (!hasLawn() || !now.isFree(place)) return STATE;
        if (now.ballCount >= MOST_BALLS) return FULL;
        now.balls[now.ballCount].begin(KINDS[kind], place);
        now.ballCount++;
        return now.ballCount - 1;
    }

    public int about(int ball, int what) {
        if (!isBall(ball)) return UNKNOWN;
        if (isOutside(what, 0, ABOUTS - 1)) return OUTSIDE;
        Ball told = now.balls[ball];
        switch (what) {
            case 0: return told.kind.number;
            case 1: return told.size;
            case 2: return told.place;
            case 3: return told.on;
            case 4: return told.weight();
            case 5: return told.kind.breadth(told.size);
            default: return told.axis;
        }
    }

    public int as(int ball, int kind) {
        if (!isBall(ball)) return UNKNOWN;
        if (!isKind(kind)) return OUTSIDE;
        return now.balls[ball].kind.isA(KINDS[kind]) ? ball : NONE;
    }

    public int may(int ball, int side) {
        if (!isBall(ball)) return UNKNOWN;
        if (!isSide(side)) return OUTSIDE;
        return now.canRoll(ball, side) ? 1 : 0;
    }

    public int roll(int ball, int side) {
        if (!isBall(ball)) return UNKNOWN;
        if (!isSide(side)) return OUTSIDE;
        if (!now.canRoll(ball, side)) return STATE;
        return now.push(ball, side);
    }

    public int lift(int a, int b) {
        if (!isBall(a) || !isBall(b) || a == b) return UNKNOWN;
        if (!now.canLift(a, b)) return STATE;
        return now.raise(a, b);
    }

    public int day(int sun) {
        if (isOutside(sun, 0, MOST_SUN)) return OUTSIDE;
        if (!hasLawn()) return STATE;
        return now.melt(sun);
    }

    // ---- what would be

    public int largest(int ball, int rolls, int what) {
        if (!isBall(ball)) return UNKNOWN;
        if (isOutside(rolls, 0, MOST_ROLLS) || isOutside(what, 0, 1)) return OUTSIDE;
        if (!maySearch(ball)) return STATE;
        searches++;
        largestSearch.begin();
        trial.copyFrom(now);
        explore(trial, ball, largestSearch, rolls, 0, NONE);
        return what == 0 ? largestSearch.size : largestSearch.firstSide;
    }

    public int comes(int ball, int place) {
        if (!isBall(ball) || !isPlace(place)) return UNKNOWN;
        if (!maySearch(ball)) return STATE;
        searches++;
        arrivalSearch.begin(place);
        trial.copyFrom(now);
        explore(trial, ball, arrivalSearch, MOST_ROLLS, 0, NONE);
        return arrivalSearch.fewest;
    }

    public int highest(int what) {
        if (isOutside(what, 0, 1)) return OUTSIDE;
        int three = now.highestThree();
        return what == 1 || three == NONE ? three : now.heightOfAll(three);
    }

    public int lasts(int sun) {
        if (isOutside(sun, 1, MOST_SUN)) return OUTSIDE;
        return now.daysToFirstGone(sun);
    }

    public int book(int kind, int place, int rolls, int size) {
        if (!isKind(kind)) return OUTSIDE;
        if (!isPlace(place)) return UNKNOWN;
        if (isOutside(rolls, 0, MOST_BOOK_ROLLS) || isOutside(size, 0, MOST_BOOK_SIZE)) return OUTSIDE;
        if (!hasLawn() || books >= MOST_SEARCHES) return STATE;
        books++;
        waysSearch.begin(rolls, size);
        trial.copyFrom(now);
        trial.balls[GUEST].begin(KINDS[kind], place);
        explore(trial, GUEST, waysSearch, rolls, 0, NONE);
        return waysSearch.ways;
    }

    public int games(int times, int seed, int what) {
        if (isOutside(times, 1, MOST_TIMES) || seed < 0 || isOutside(what, 0, 3)) return OUTSIDE;
        if (!hasLawn() || now.ballCount == 0) return STATE;
        trial.copyFrom(now);
        long drawn = seed;
        int rolled = 0;
        for (int time = 0; time < times; time++) {
            drawn = nextSeed(drawn);
            int ball = drawOf(drawn, trial.ballCount);
            drawn = nextSeed(drawn);
            int side = drawOf(drawn, SIDES);
            if (trial.canRoll(ball, side)) {
                trial.push(ball, side);
                rolled++;
            }
        }
        switch (what) {
            case 0: return trial.allSizes();
            case 1: return rolled;
            case 2: return trial.allDepths();
            default: return (int) drawn;
        }
    }

    // ---- what is told of all

    public int image() {
        if (!hasLawn()) return STATE;
        kept.copyFrom(now);
        hasImage = true;
        return kept.ballCount;
    }

    public int restore() {
        if (!hasImage) return STATE;
        now.copyFrom(kept);
        return now.ballCount;
    }

    public int count(int what) {
        switch (what) {
            case 0: return now.allDepths();
            case 1: return now.ballCount;
            case 2: return now.goneBalls();
            case 3: return hasLawn() ? now.greenPlaces() : 0;
            case 4: return now.wetness;
            case 5: return now.strength;
            case 6: return now.days;
            case 7: return now.allSizes();
            case 8: return letters;
            case 9: return lawnsRead;
            case 10: return searches;
            case 11: return books;
            default: return OUTSIDE;
        }
    }

    public long digest() {
        long h = digestOfBalls(digestOfPlaces(727L));
        h = mixed(h, highest(0));
        h = mixed(h, highest(1));
        h = mixed(h, lasts(1));
        for (int i = 0; i < letters; i++) h = mixed(h, page[i]);
        for (int what = 0; what < COUNTS; what++) h = mixed(h, count(what));
        return h;
    }

    private long digestOfPlaces(long start) {
        long h = start;
        if (!hasLawn()) return h;
        for (int place = 0; place < PLACES; place++) {
            for (int what = 0; what <= 2; what++) h = mixed(h, place(place, what));
        }
        return h;
    }

    private long digestOfBalls(long start) {
        long h = start;
        for (int ball = 0; ball < now.ballCount; ball++) {
            for (int what = 0; what < ABOUTS; what++) h = mixed(h, about(ball, what));
            for (int side = 0; side < SIDES; side++) h = mixed(h, may(ball, side));
        }
        return h;
    }

    private static long mixed(long h, long number) {
        return 31L * h + number;
    }

    private boolean hasLawn() {
        return lawnsRead > 0;
    }

    private boolean isBall(int ball) {
        return ball >= 0 && ball < now.ballCount;
    }

    private boolean maySearch(int ball) {
        return !now.balls[ball].isGone() && searches < MOST_SEARCHES;
    }

    private static boolean isPlace(int place) {
        return !isOutside(place, 0, PLACES - 1);
    }

    private static boolean isKind(int kind) {
        return !isOutside(kind, 0, KINDS.length - 1);
    }

    private static boolean isSide(int side) {
        return !isOutside(side, 0, SIDES - 1);
    }

    private static boolean isOutside(int number, int least, int most) {
        return number < least || number > most;
    }

    /** Any such letter can be led on to a whole lawn, so each is judged by its own index alone. */
    private static boolean belongsAt(int index, char letter) {
        if (index >= LAWN_LETTERS) return false;
        if (index == SEMICOLON_AT) return letter == ';';
        if (index < SEMICOLON_AT && index % (COLUMNS + 1) == COLUMNS) return letter == '/';
        return letter >= '0' && letter <= '9';
    }

    /** Each row ahead brings one "/" more, so a place's letter lies that much further on. */
    private static int letterOf(int place) {
        return place + place / COLUMNS;
    }

    private static int beside(int place, int side) {
        if (!isPlace(place)) return NONE;
        int column = place % COLUMNS;
        switch (side) {
            case 0: return place >= COLUMNS ? place - COLUMNS : NONE;
            case 1: return column < COLUMNS - 1 ? place + 1 : NONE;
            case 2: return place < (ROWS - 1) * COLUMNS ? place + COLUMNS : NONE;
            case 3: return column > 0 ? place - 1 : NONE;
            default: return NONE;
        }
    }

    private static boolean areBeside(int one, int other) {
        if (other == NONE) return false;
        for (int side = 0; side < SIDES; side++) {
            if (beside(one, side) == other) return true;
        }
        return false;
    }

    /** Sides lie turn by turn along the column (0) and along the row (1), as about() tells it. */
    private static int axisOf(int side) {
        return side % 2;
    }

    private static int rootOf(int size) {
        int root = 0;
        for (int next = 1; next <= MOST_ROOT && next * next <= size; next++) root = next;
        return root;
    }

    private static long nextSeed(long seed) {
        return (1103515245L * seed + 12345L) % 2147483648L;
    }

    private static int drawOf(long seed, int many) {
        return many > 0 ? (int) (seed / 65536L % many) : 0;
    }

    /** Shows the search each row of rolls, sides in rising order, and leaves the lawn as it was. */
    private static void explore(Lawn lawn, int number, Search search, int most, int rolled, int first) {
        Ball ball = lawn.balls[number];
        search.meet(ball, rolled, first);
        if (rolled >= most || rolled >= MOST_ROLLS) return;
        int place = ball.place;
        int size = ball.size;
        int axis = ball.axis;
        for (int side = 0; side < SIDES; side++) {
            if (!lawn.canRoll(number, side)) continue;
            int target = beside(place, side);
            if (target == NONE) continue;
            int depth = lawn.depths[target];
            lawn.push(number, side);
            explore(lawn, number, search, most, rolled + 1, rolled == 0 ? side : first);
            lawn.depths[target] = depth;
            ball.place = place;
            ball.size = size;
            ball.axis = axis;
        }
    }

    private enum Kind {
        BALL(0, 1, 0, 4, 1, 0),
        DRUM(1, 1, 1, 4, 1, 1),
        POWDER(2, 1, 0, 10, 1, 0),
        WET(3, 2, 0, 0, 1, 0),
        SLUSH(4, 2, 0, 0, 2, 0);

        private static final int MOST_POWDER = 20;
        private static final int SIZE_FOR_BREADTH = 8;

        final int number;
        private final int weightTimes;
        private final int moreBreadth;
        /** The wetness from which it takes all that it presses on; 10 is wetter than any lawn. */
        private final int takesAllFrom;
        private final int meltTimes;
        private final int moreMelt;

        Kind(int number, int weightTimes, int moreBreadth, int takesAllFrom, int meltTimes, int moreMelt) {
            this.number = number;
            this.weightTimes = weightTimes;
            this.moreBreadth = moreBreadth;
            this.takesAllFrom = takesAllFrom;
            this.meltTimes = meltTimes;
            this.moreMelt = moreMelt;
        }

        boolean isA(Kind other) {
            return other == this || other == BALL || (this == SLUSH && other == WET);
        }

        int weight(int size) {
            return size * weightTimes;
        }

        int breadth(int size) {
            return 1 + size / SIZE_FOR_BREADTH + moreBreadth;
        }

        int takes(int size, int depth, int wetness) {
            int pressed = Math.min(breadth(size), depth);
            return wetness < takesAllFrom ? (pressed + 1) / 2 : pressed;
        }

        int melts(int sun) {
            return sun * meltTimes + moreMelt;
        }

        boolean crumbles(int size) {
            return this == POWDER && size > MOST_POWDER;
        }

        boolean sticks() {
            return this == DRUM;
        }
    }

    private static final class Ball {
        Kind kind;
        int size;
        int place;
        int on;
        int axis;

        Ball() {
            kind = Kind.BALL;
            size = 0;
            place = NONE;
            on = NONE;
            axis = NONE;
        }

        void begin(Kind newKind, int newPlace) {
            kind = newKind;
            size = 1;
            place = newPlace;
            on = NONE;
            axis = NONE;
        }

        void copyFrom(Ball other) {
            kind = other.kind;
            size = other.size;
            place = other.place;
            on = other.on;
            axis = other.axis;
        }

        boolean isGone() {
            return size <= 0;
        }

        int weight() {
            return kind.weight(size);
        }

        boolean keepsTo(int side) {
            return axis == NONE || axis == axisOf(side);
        }

        void leave() {
            size = 0;
            place = NONE;
            on = NONE;
        }
    }

    /** All that an image keeps, and the wetness, which stays as long as the lawn does. */
    private static final class Lawn {
        final int[] depths;
        final Ball[] balls;
        int ballCount;
        int wetness;
        int strength;
        int days;

        Lawn() {
            depths = new int[PLACES];
            balls = new Ball[MOST_BALLS + 1];
            for (int i = 0; i < balls.length; i++) balls[i] = new Ball();
            strength = FIRST_STRENGTH;
        }

        void clear() {
            ballCount = 0;
            days = 0;
            strength = FIRST_STRENGTH;
        }

        void copyFrom(Lawn other) {
            for (int place = 0; place < PLACES; place++) depths[place] = other.depths[place];
            for (int i = 0; i < MOST_BALLS; i++) balls[i].copyFrom(other.balls[i]);
            ballCount = other.ballCount;
            wetness = other.wetness;
            strength = other.strength;
            days = other.days;
        }

        int allDepths() {
            int sum = 0;
            for (int depth : depths) sum += depth;
            return sum;
        }

        int greenPlaces() {
            int green = 0;
            for (int depth : depths) green += depth == 0 ? 1 : 0;
            return green;
        }

        int allSizes() {
            int sum = 0;
            for (int i = 0; i < ballCount; i++) sum += balls[i].size;
            return sum;
        }

        int goneBalls() {
            int gone = 0;
            for (int i = 0; i < ballCount; i++) gone += balls[i].isGone() ? 1 : 0;
            return gone;
        }

        int lowestAt(int place) {
            for (int i = 0; i < ballCount; i++) {
                if (balls[i].place == place && balls[i].on == NONE) return i;
            }
            return NONE;
        }

        int manyAt(int place) {
            int many = 0;
            for (int i = 0; i < ballCount; i++) many += balls[i].place == place ? 1 : 0;
            return many;
        }

        int heightAt(int place) {
            int height = 0;
            for (int i = 0; i < ballCount; i++) {
                if (balls[i].place == place) height += rootOf(balls[i].size);
            }
            return height;
        }

        boolean isFree(int place) {
            return manyAt(place) == 0;
        }

        boolean isTopped(int number) {
            for (int i = 0; i < ballCount; i++) {
                if (balls[i].on == number) return true;
            }
            return false;
        }

        /** Neither in a stack nor gone: only such a one is rolled or lifted. */
        boolean standsAlone(int number) {
            Ball ball = balls[number];
            return !ball.isGone() && ball.on == NONE && !isTopped(number);
        }

        boolean canRoll(int number, int side) {
            Ball ball = balls[number];
            if (!standsAlone(number) || ball.weight() > strength || !ball.keepsTo(side)) return false;
            int target = beside(ball.place, side);
            return target != NONE && isFree(target);
        }

        /** Rolls one that can be rolled: its size then. */
        int push(int number, int side) {
            Ball ball = balls[number];
            int target = beside(ball.place, side);
            if (target == NONE) return ball.size;
            int taken = ball.kind.takes(ball.size, depths[target], wetness);
            depths[target] -= taken;
            ball.size += taken;
            ball.place = target;
            if (ball.kind.sticks()) ball.axis = axisOf(side);
            if (ball.kind.crumbles(ball.size)) ball.leave();
            return ball.size;
        }

        boolean canLift(int a, int b) {
            Ball lifted = balls[a];
            Ball under = balls[b];
            if (!standsAlone(a) || 2 * lifted.weight() > strength) return false;
            if (under.isGone() || isTopped(b) || under.size <= lifted.size) return false;
            return areBeside(lifted.place, under.place) && manyAt(under.place) < MOST_STACKED;
        }

        /** Lifts one that can be lifted: the height there then. */
        int raise(int a, int b) {
            balls[a].place = balls[b].place;
            balls[a].on = b;
            return heightAt(balls[b].place);
        }

        int melt(int sun) {
            int goneNow = 0;
            for (int i = 0; i < ballCount; i++) {
                Ball ball = balls[i];
                if (ball.isGone()) continue;
                int loss = ball.kind.melts(sun);
                if (loss < ball.size) {
                    ball.size -= loss;
                } else {
                    lower(i, ball.on);
                    ball.leave();
                    goneNow++;
                }
            }
            days++;
            return goneNow;
        }

        /** Whoever stands on one that goes stands on what that one stood on. */
        private void lower(int number, int on) {
            for (int i = 0; i < ballCount; i++) {
                if (balls[i].on == number) balls[i].on = on;
            }
        }

        int daysToFirstGone(int sun) {
            int first = NONE;
            for (int i = 0; i < ballCount; i++) {
                Ball ball = balls[i];
                int loss = ball.kind.melts(sun);
                if (ball.isGone() || loss <= 0) continue;
                int lasting = (ball.size + loss - 1) / loss;
                if (first == NONE || lasting < first) first = lasting;
            }
            return first;
        }

        /** The threes come with rising bits, so of like ones the first is the least. */
        int highestThree() {
            int best = NONE;
            int most = 0;
            for (int three = 0; three < 1 << ballCount; three++) {
                if (Integer.bitCount(three) != MOST_STACKED || !couldStack(three)) continue;
                int height = heightOfAll(three);
                if (best == NONE || height > most) {
                    best = three;
                    most = height;
                }
            }
            return best;
        }

        int heightOfAll(int set) {
            int height = 0;
            for (int i = 0; i < ballCount; i++) {
                if (isIn(set, i)) height += rootOf(balls[i].size);
            }
            return height;
        }

        private boolean couldStack(int set) {
            for (int i = 0; i < ballCount; i++) {
                if (isIn(set, i) && (balls[i].isGone() || !couldJoin(set, i))) return false;
            }
            return true;
        }

        /** Only the largest one need not be lifted; no two may be of one size. */
        private boolean couldJoin(int set, int number) {
            boolean isLargest = true;
            for (int i = 0; i < ballCount; i++) {
                if (i == number || !isIn(set, i)) continue;
                if (balls[i].size == balls[number].size) return false;
                if (balls[i].size > balls[number].size) isLargest = false;
            }
            return isLargest || 2 * balls[number].weight() <= strength;
        }

        private static boolean isIn(int set, int number) {
            return (set >> number & 1) == 1;
        }
    }

    /** What is looked for among all rows of rolls of one ball. */
    private abstract static class Search {
        abstract void meet(Ball ball, int rolled, int first);
    }

    private static final class Largest extends Search {
        int size;
        int firstSide;
        private int fewest;

        void begin() {
            size = 0;
            firstSide = NONE;
            fewest = 0;
        }

        /** First sides come in rising order, so of like rows the first one stays. */
        void meet(Ball ball, int rolled, int first) {
            if (ball.size < size || (ball.size == size && rolled >= fewest)) return;
            size = ball.size;
            fewest = rolled;
            firstSide = first;
        }
    }

    private static final class Arrival extends Search {
        int fewest;
        private int target;

        void begin(int place) {
            target = place;
            fewest = NONE;
        }

        void meet(Ball ball, int rolled, int first) {
            if (ball.place != target) return;
            if (fewest == NONE || rolled < fewest) fewest = rolled;
        }
    }

    private static final class Ways extends Search {
        int ways;
        private int rolls;
        private int size;

        void begin(int justRolls, int toldSize) {
            rolls = justRolls;
            size = toldSize;
            ways = 0;
        }

        void meet(Ball ball, int rolled, int first) {
            if (rolled == rolls && ball.size == size) ways++;
        }
    }
}
