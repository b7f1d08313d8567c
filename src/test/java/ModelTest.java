import java.util.ArrayList;
import java.util.Arrays;
import java.util.HashMap;
import java.util.List;
import java.util.Map;
import java.util.TreeMap;

/**
 * Long runs of drawn calls, each answer held against a second, plain reading of the document
 * that shares no way of working with the class: states are texts, what would be is searched level by level.
 */
public final class ModelTest {
    private static final int RUNS = 1500;
    private static final int CALLS = 512;

    private long seed;
    private final Map<String, Integer> seen = new TreeMap<>();

    public static void main(String[] args) {
        ModelTest test = new ModelTest();
        int failed = 0;
        for (int run = 0; run < RUNS && failed < 5; run++) if (!test.agrees(run)) failed++;
        for (String must : MUST_BE_SEEN) {
            if (!test.seen.containsKey(must)) {
                System.out.println("no run came to: " + must);
                failed++;
            }
        }
        if (args.length > 0) test.seen.forEach((what, times) -> System.out.println(times + " " + what));
        System.out.println((RUNS - failed) + " passed, " + failed + " failed");
        if (failed != 0) System.exit(1);
    }

    /** A run that never comes to these shows little, so their absence fails the test. */
    private static final String[] MUST_BE_SEEN = {
        "roll CRUMBLES", "roll STATE", "lift on one", "lift on two", "lift STATE", "day gone 1", "day gone 2",
        "largest side 3", "largest STATE", "comes 6", "comes NONE", "comes STATE", "highest found", "highest NONE",
        "book STATE", "book some", "games 3", "restore ok", "restore STATE", "ball FULL", "ball STATE", "lawn ok",
        "lawn STATE", "letter FULL", "stack fell"};

    private int draw(int many) {
        seed = seed * 6364136223846793005L + 1442695040888963407L;
        return (int) ((seed >>> 33) % many);
    }

    private int oddly(int least, int most) {
        int chance = draw(60);
        if (chance == 0) return least - 1;
        if (chance == 1) return most + 1;
        if (chance == 2) return draw(2) == 0 ? Integer.MIN_VALUE : Integer.MAX_VALUE;
        return least + draw(most - least + 1);
    }

    private boolean agrees(int run) {
        seed = 77L * run + 5;
        SnowBalls x = new SnowBalls();
        Model m = new Model();
        int style = draw(4);
        String said = "";
        List<String> told = new ArrayList<>();
        for (int call = 0; call < CALLS; call++) {
            int[] a = next(m, style, call);
            long got = ask(x, a);
            long due = ask(m, a);
            told.add(Arrays.toString(a) + " = " + got);
            note(m, a, due);
            if (got != due) {
                System.out.println("run " + run + ", call " + call + " " + Arrays.toString(a) + " answered " + got + ", due is " + due);
                for (String t : told.subList(Math.max(0, told.size() - 60), told.size())) said += t + "; ";
                System.out.println(said);
                return false;
            }
        }
        return true;
    }

    private String pending = "";

    /** Mostly a lawn first, then calls that can be done, with a wrong number now and then. */
    private int[] next(Model m, int style, int call) {
        if (!pending.isEmpty()) {
            int code = pending.charAt(0);
            pending = pending.substring(1);
            return code == '\n' ? new int[] {4} : new int[] {1, code};
        }
        if ((m.depth == null && draw(6) == 0) || draw(150) == 0) {
            if (!m.page.isEmpty()) return new int[] {2};
            pending = text(style) + "\n";
        }
        int chance = draw(100);
        int ball = oddly(0, Math.max(0, m.balls.size() - 1));
        if (chance < 40) return new int[] {12, ball, style == 1 ? draw(4) : oddly(0, 3)};
        if (chance < 48) return lifting(m, ball);
        if (chance < 54) return new int[] {8, oddly(0, 4), oddly(0, 19)};
        switch (chance - 54) {
            case 0: case 1: return new int[] {15, ball, oddly(0, 6), oddly(0, 1)};
            case 2: case 3: return new int[] {16, ball, oddly(0, 19)};
            case 4: case 5: return new int[] {19, oddly(0, 4), oddly(0, 19), oddly(0, 5), draw(3) == 0 ? oddly(0, 99) : draw(9)};
            case 6: return new int[] {1, oddly(32, 126)};
            case 7: return new int[] {2};
            case 8: return new int[] {3};
            case 9: return new int[] {4};
            case 10: case 11: return new int[] {6, oddly(0, 19), oddly(0, 2)};
            case 12: return new int[] {7, draw(2) == 0 ? 30 + draw(70) : oddly(1, 99)};
            case 13: case 14: return new int[] {9, ball, oddly(0, 6)};
            case 15: return new int[] {10, ball, oddly(0, 4)};
            case 16: case 17: return new int[] {11, ball, oddly(0, 3)};
            case 18: return new int[] {14, draw(3) == 0 ? oddly(0, 9) : draw(3)};
            case 19: case 20: return new int[] {17, oddly(0, 1)};
            case 21: case 22: return new int[] {18, oddly(1, 9)};
            case 23: return new int[] {20, oddly(1, 60), draw(20) == 0 ? -1 - draw(9) : draw(Integer.MAX_VALUE), oddly(0, 3)};
            case 24: return new int[] {21};
            case 25: return new int[] {22};
            case 26: case 27: return new int[] {23, oddly(0, 11)};
            default: return new int[] {24};
        }
    }

    private int[] lifting(Model m, int ball) {
        for (int a = 0; a < m.balls.size(); a++) {
            for (int b = 0; b < m.balls.size(); b++) if (a != b && m.liftable(a, b)) return new int[] {13, a, b};
        }
        return new int[] {13, ball, oddly(0, Math.max(0, m.balls.size() - 1))};
    }

    private String text(int style) {
        StringBuilder text = new StringBuilder();
        for (int row = 0; row < 4; row++) {
            if (row > 0) text.append('/');
            for (int column = 0; column < 5; column++) text.append((char) ('0' + (style == 1 ? 9 : draw(10))));
        }
        text.append(';').append((char) ('0' + draw(10)));
        if (draw(5) == 0) text.setCharAt(draw(text.length()), "0/;x5".charAt(draw(5)));
        if (draw(12) == 0) text.append("7");
        if (draw(12) == 0) text.setLength(draw(25));
        return text.toString();
    }

    private void note(Model m, int[] a, long due) {
        String what = null;
        boolean state = due == SnowBalls.STATE;
        switch (a[0]) {
            case 1: what = due == SnowBalls.FULL ? "letter FULL" : "letter"; break;
            case 4: what = state ? "lawn STATE" : "lawn ok"; break;
            case 8: what = state ? "ball STATE" : due == SnowBalls.FULL ? "ball FULL" : "ball"; break;
            case 12: what = state ? "roll STATE" : due == 0 ? "roll CRUMBLES" : "roll"; break;
            case 13: what = state ? "lift STATE" : due < 0 ? "lift" : m.balls.get(a[2]).on < 0 ? "lift on one" : "lift on two"; break;
            case 14: what = m.fell ? "stack fell" : "day gone " + due; m.fell = false; break;
            case 15: what = state ? "largest STATE" : due >= 0 && a[3] == 1 ? "largest side " + due : "largest"; break;
            case 16: what = state ? "comes STATE" : due == -1 ? "comes NONE" : "comes " + due; break;
            case 17: what = due > 0 ? "highest found" : "highest NONE"; break;
            case 19: what = state ? "book STATE" : due > 0 ? "book some" : "book"; break;
            case 20: what = due < 0 ? "games" : "games " + a[3]; break;
            case 22: what = state ? "restore STATE" : "restore ok"; break;
            default: what = "call " + a[0];
        }
        seen.merge(what, 1, Integer::sum);
    }

    private static long ask(SnowBalls x, int[] a) {
        switch (a[0]) {
            case 1: return x.letter(a[1]);
            case 2: return x.blank();
            case 3: return x.fault();
            case 4: return x.lawn();
            case 6: return x.place(a[1], a[2]);
            case 7: return x.strength(a[1]);
            case 8: return x.ball(a[1], a[2]);
            case 9: return x.about(a[1], a[2]);
            case 10: return x.as(a[1], a[2]);
            case 11: return x.may(a[1], a[2]);
            case 12: return x.roll(a[1], a[2]);
            case 13: return x.lift(a[1], a[2]);
            case 14: return x.day(a[1]);
            case 15: return x.largest(a[1], a[2], a[3]);
            case 16: return x.comes(a[1], a[2]);
            case 17: return x.highest(a[1]);
            case 18: return x.lasts(a[1]);
            case 19: return x.book(a[1], a[2], a[3], a[4]);
            case 20: return x.games(a[1], a[2], a[3]);
            case 21: return x.image();
            case 22: return x.restore();
            case 23: return x.count(a[1]);
            default: return x.digest();
        }
    }

    private static long ask(Model m, int[] a) {
        switch (a[0]) {
            case 1: return m.letter(a[1]);
            case 2: return m.blank();
            case 3: return m.fault();
            case 4: return m.lawn();
            case 6: return m.place(a[1], a[2]);
            case 7: return m.setStrength(a[1]);
            case 8: return m.ball(a[1], a[2]);
            case 9: return m.about(a[1], a[2]);
            case 10: return m.as(a[1], a[2]);
            case 11: return m.may(a[1], a[2]);
            case 12: return m.roll(a[1], a[2]);
            case 13: return m.lift(a[1], a[2]);
            case 14: return m.day(a[1]);
            case 15: return m.largest(a[1], a[2], a[3]);
            case 16: return m.comes(a[1], a[2]);
            case 17: return m.highest(a[1]);
            case 18: return m.lasts(a[1]);
            case 19: return m.book(a[1], a[2], a[3], a[4]);
            case 20: return m.games(a[1], a[2], a[3]);
            case 21: return m.image();
            case 22: return m.restore();
            case 23: return m.count(a[1]);
            default: return m.digest();
        }
    }

    private static final class One {
        int kind, size = 1, row, column, on = -1;
        String way = "";

        One(int kind, int place) {
            this.kind = kind;
            row = place / 5;
            column = place % 5;
        }

        One copy() {
            One c = new One(kind, row * 5 + column);
            c.size = size;
            c.on = on;
            c.way = way;
            return c;
        }

        int place() {
            return size == 0 ? -1 : row * 5 + column;
        }

        int weight() {
            return kind >= 3 ? 2 * size : size;
        }

        int breadth() {
            return (kind == 1 ? 2 : 1) + size / 8;
        }
    }

    /** The document once more, with one ball pushed over a copy of all. */
    private static final class Model {
        static final int UNKNOWN = -101, OUTSIDE = -102, STATE = -103, FULL = -104;
        String page = "";
        int[][] depth;
        int wet, strength = 20, days, read, searched, booked;
        boolean fell;
        List<One> balls = new ArrayList<>();
        Model kept;

        Model copy() {
            Model c = new Model();
            c.depth = new int[4][];
            for (int r = 0; r < 4; r++) c.depth[r] = depth[r].clone();
            c.wet = wet;
            c.strength = strength;
            c.days = days;
            for (One b : balls) c.balls.add(b.copy());
            return c;
        }

        boolean no(int v, int least, int most) {
            return v < least || v > most;
        }

        int letter(int code) {
            if (no(code, 32, 126)) return OUTSIDE;
            if (page.length() == 26) return FULL;
            page += (char) code;
            return page.length();
        }

        int blank() {
            int had = page.length();
            page = "";
            return had;
        }

        int fault() {
            int good = 0;
            while (good < page.length() && isAhead(page.substring(0, good + 1))) good++;
            return good;
        }

        /** Whether it can be led on to a lawn: filled up from one, it is one. */
        boolean isAhead(String start) {
            String whole = "00000/00000/00000/00000;0";
            if (start.length() > whole.length()) return false;
            return isLawn(start + whole.substring(start.length()));
        }

        boolean isLawn(String text) {
            return text.matches("[0-9]{5}(/[0-9]{5}){3};[0-9]");
        }

        int lawn() {
            if (!isLawn(page)) return STATE;
            depth = new int[4][5];
            String[] rows = page.substring(0, 23).split("/");
            for (int r = 0; r < 4; r++) for (int c = 0; c < 5; c++) depth[r][c] = rows[r].charAt(c) - 48;
            wet = page.charAt(24) - 48;
            strength = 20;
            days = 0;
            balls.clear();
            kept = null;
            page = "";
            read++;
            return count(0);
        }

        List<One> at(int place) {
            List<One> there = new ArrayList<>();
            for (One b : balls) if (b.place() == place) there.add(b);
            return there;
        }

        int height(int place) {
            int h = 0;
            for (One b : at(place)) h += (int) Math.floor(Math.sqrt(b.size));
            return h;
        }

        int place(int place, int what) {
            if (no(place, 0, 19)) return UNKNOWN;
            if (no(what, 0, 2)) return OUTSIDE;
            if (depth == null) return STATE;
            if (what == 0) return depth[place / 5][place % 5];
            if (what == 2) return height(place);
            for (One b : at(place)) if (b.on < 0) return balls.indexOf(b);
            return -1;
        }

        int setStrength(int v) {
            if (no(v, 1, 99)) return OUTSIDE;
            if (depth == null) return STATE;
            int was = strength;
            strength = v;
            return was;
        }

        int ball(int kind, int place) {
            if (no(place, 0, 19)) return UNKNOWN;
            if (no(kind, 0, 4)) return OUTSIDE;
            if (depth == null || !at(place).isEmpty()) return STATE;
            if (balls.size() == 4) return FULL;
            balls.add(new One(kind, place));
            return balls.size() - 1;
        }

        int about(int ball, int what) {
            if (no(ball, 0, balls.size() - 1)) return UNKNOWN;
            if (no(what, 0, 6)) return OUTSIDE;
            One b = balls.get(ball);
            int axis = b.way.isEmpty() ? -1 : b.way.equals("row") ? 1 : 0;
            return new int[] {b.kind, b.size, b.place(), b.size == 0 ? -1 : b.on, b.weight(), b.breadth(), axis}[what];
        }

        int as(int ball, int kind) {
            if (no(ball, 0, balls.size() - 1)) return UNKNOWN;
            if (no(kind, 0, 4)) return OUTSIDE;
            String[] all = {"0", "01", "02", "03", "034"};
            return all[balls.get(ball).kind].indexOf('0' + kind) >= 0 ? ball : -1;
        }

        boolean alone(One b) {
            return b.size > 0 && at(b.place()).size() == 1;
        }

        /** Whether b (one of ours, or one that is on the lawn in thought) can be rolled. */
        boolean rollable(One b, int side, boolean ours) {
            if (b.size == 0 || (ours && !alone(b)) || b.weight() > strength) return false;
            if (!b.way.isEmpty() && !b.way.equals(side % 2 == 1 ? "row" : "column")) return false;
            int r = b.row + new int[] {-1, 0, 1, 0}[side];
            int c = b.column + new int[] {0, 1, 0, -1}[side];
            return r >= 0 && r < 4 && c >= 0 && c < 5 && at(r * 5 + c).isEmpty();
        }

        void push(One b, int side) {
            int breadth = b.breadth();
            b.row += new int[] {-1, 0, 1, 0}[side];
            b.column += new int[] {0, 1, 0, -1}[side];
            int taken = Math.min(breadth, depth[b.row][b.column]);
            boolean half = b.kind == 2 || (b.kind < 2 && wet < 4);
            if (half) taken -= taken / 2;
            depth[b.row][b.column] -= taken;
            b.size += taken;
            if (b.kind == 1) b.way = side % 2 == 1 ? "row" : "column";
            if (b.kind == 2 && b.size > 20) b.size = 0;
        }

        int may(int ball, int side) {
            if (no(ball, 0, balls.size() - 1)) return UNKNOWN;
            if (no(side, 0, 3)) return OUTSIDE;
            return rollable(balls.get(ball), side, true) ? 1 : 0;
        }

        int roll(int ball, int side) {
            int can = may(ball, side);
            if (can < 0) return can;
            if (can == 0) return STATE;
            push(balls.get(ball), side);
            return balls.get(ball).size;
        }

        boolean liftable(int a, int b) {
            One x = balls.get(a);
            One y = balls.get(b);
            if (x.size == 0 || y.size == 0 || !alone(x) || 2 * x.weight() > strength) return false;
            if (Math.abs(x.row - y.row) + Math.abs(x.column - y.column) != 1 || x.size >= y.size) return false;
            for (One other : balls) if (other.size > 0 && other.on == b) return false;
            return at(y.place()).size() < 3;
        }

        int lift(int a, int b) {
            int last = balls.size() - 1;
            if (no(a, 0, last) || no(b, 0, last) || a == b) return UNKNOWN;
            if (!liftable(a, b)) return STATE;
            One x = balls.get(a);
            One y = balls.get(b);
            x.row = y.row;
            x.column = y.column;
            x.on = b;
            return height(x.place());
        }

        int loss(One b, int sun) {
            return b.kind == 1 ? sun + 1 : b.kind == 4 ? sun * 2 : sun;
        }

        int day(int sun) {
            if (no(sun, 0, 9)) return OUTSIDE;
            if (depth == null) return STATE;
            days++;
            int gone = 0;
            for (One b : balls) {
                if (b.size == 0) continue;
                b.size = Math.max(0, b.size - loss(b, sun));
                if (b.size == 0) gone++;
            }
            for (One b : balls) {
                while (b.size > 0 && b.on >= 0 && balls.get(b.on).size == 0) {
                    b.on = balls.get(b.on).on;
                    fell = true;
                }
            }
            for (One b : balls) if (b.size == 0) b.on = -1;
            return gone;
        }

        String key(One b) {
            return Arrays.deepToString(depth) + b.size + "," + b.place() + b.way;
        }

        /** Every row of rolls by its level: the states it leads to, with the first sides in rising order. */
        List<List<Object[]>> levels(int ball, int rolls) {
            List<List<Object[]>> levels = new ArrayList<>();
            Model start = copy();
            levels.add(List.<Object[]>of(new Object[] {start, -1}));
            for (int level = 0; level < rolls; level++) {
                List<Object[]> next = new ArrayList<>();
                Map<String, Integer> met = new HashMap<>();
                for (Object[] at : levels.get(level)) {
                    for (int side = 0; side < 4; side++) {
                        Model m = (Model) at[0];
                        if (!m.rollable(m.balls.get(ball), side, true)) continue;
                        Model c = m.copy();
                        c.push(c.balls.get(ball), side);
                        int first = level == 0 ? side : (int) at[1];
                        if (met.merge(c.key(c.balls.get(ball)) + first, 1, Integer::sum) == 1) next.add(new Object[] {c, first});
                    }
                }
                levels.add(next);
            }
            return levels;
        }

        int largest(int ball, int rolls, int what) {
            if (no(ball, 0, balls.size() - 1)) return UNKNOWN;
            if (no(rolls, 0, 6) || no(what, 0, 1)) return OUTSIDE;
            if (balls.get(ball).size == 0 || searched == 60) return STATE;
            searched++;
            int size = balls.get(ball).size;
            int side = -1;
            for (List<Object[]> level : levels(ball, rolls)) {
                int most = 0;
                int least = 9;
                for (Object[] at : level) most = Math.max(most, ((Model) at[0]).balls.get(ball).size);
                for (Object[] at : level) if (((Model) at[0]).balls.get(ball).size == most) least = Math.min(least, (int) at[1]);
                if (most > size) {
                    size = most;
                    side = least;
                }
            }
            return what == 0 ? size : side;
        }

        int comes(int ball, int place) {
            if (no(ball, 0, balls.size() - 1) || no(place, 0, 19)) return UNKNOWN;
            if (balls.get(ball).size == 0 || searched == 60) return STATE;
            searched++;
            int rolled = 0;
            for (List<Object[]> level : levels(ball, 6)) {
                for (Object[] at : level) if (((Model) at[0]).balls.get(ball).place() == place) return rolled;
                rolled++;
            }
            return -1;
        }

        int highest(int what) {
            if (no(what, 0, 1)) return OUTSIDE;
            int best = -1;
            int which = -1;
            int n = balls.size();
            for (int i = 0; i < n; i++) for (int j = 0; j < n; j++) for (int k = 0; k < n; k++) {
                One a = balls.get(i);
                One b = balls.get(j);
                One c = balls.get(k);
                if (a.size == 0 || b.size == 0 || c.size == 0 || a.size <= b.size || b.size <= c.size) continue;
                if (2 * b.weight() > strength || 2 * c.weight() > strength) continue;
                int h = (int) Math.sqrt(a.size) + (int) Math.sqrt(b.size) + (int) Math.sqrt(c.size);
                int bits = (1 << i) + (1 << j) + (1 << k);
                if (h > best || (h == best && bits < which)) {
                    best = h;
                    which = bits;
                }
            }
            return what == 0 ? best : which;
        }

        int lasts(int sun) {
            if (no(sun, 1, 9)) return OUTSIDE;
            int first = -1;
            for (One b : balls) {
                int left = b.size;
                int day = 0;
                while (left > 0) {
                    left -= loss(b, sun);
                    day++;
                }
                if (day > 0 && (first < 0 || day < first)) first = day;
            }
            return first;
        }

        int book(int kind, int place, int rolls, int size) {
            if (no(kind, 0, 4)) return OUTSIDE;
            if (no(place, 0, 19)) return UNKNOWN;
            if (no(rolls, 0, 5) || no(size, 0, 99)) return OUTSIDE;
            if (depth == null || booked == 60) return STATE;
            booked++;
            Map<String, Object[]> level = new HashMap<>();
            level.put("", new Object[] {copy(), new One(kind, place), 1});
            for (int rolled = 0; rolled < rolls; rolled++) {
                Map<String, Object[]> next = new HashMap<>();
                for (Object[] at : level.values()) {
                    for (int side = 0; side < 4; side++) {
                        if (!((Model) at[0]).rollable((One) at[1], side, false)) continue;
                        Model c = ((Model) at[0]).copy();
                        One b = ((One) at[1]).copy();
                        c.push(b, side);
                        Object[] there = next.computeIfAbsent(c.key(b), k -> new Object[] {c, b, 0});
                        there[2] = (int) there[2] + (int) at[2];
                    }
                }
                level = next;
            }
            int ways = 0;
            for (Object[] at : level.values()) if (((One) at[1]).size == size) ways += (int) at[2];
            return ways;
        }

        int games(int times, int start, int what) {
            if (no(times, 1, 60) || start < 0 || no(what, 0, 3)) return OUTSIDE;
            if (depth == null || balls.isEmpty()) return STATE;
            Model c = copy();
            java.math.BigInteger s = java.math.BigInteger.valueOf(start);
            int[] draws = new int[2];
            int could = 0;
            for (int t = 0; t < times; t++) {
                for (int d = 0; d < 2; d++) {
                    s = s.multiply(java.math.BigInteger.valueOf(1103515245)).add(java.math.BigInteger.valueOf(12345));
                    s = s.mod(java.math.BigInteger.TWO.pow(31));
                    draws[d] = s.intValueExact() / 65536 % (d == 0 ? balls.size() : 4);
                }
                if (c.roll(draws[0], draws[1]) != STATE) could++;
            }
            return new int[] {c.count(7), could, c.count(0), s.intValueExact()}[what];
        }

        int image() {
            if (depth == null) return STATE;
            kept = copy();
            return balls.size();
        }

        int restore() {
            if (kept == null) return STATE;
            Model c = kept.copy();
            depth = c.depth;
            strength = c.strength;
            days = c.days;
            balls = c.balls;
            return balls.size();
        }

        int count(int what) {
            if (no(what, 0, 11)) return OUTSIDE;
            int depths = 0;
            int green = 0;
            if (depth != null) for (int[] row : depth) for (int d : row) {
                depths += d;
                if (d == 0) green++;
            }
            int gone = 0;
            int sizes = 0;
            for (One b : balls) {
                sizes += b.size;
                if (b.size == 0) gone++;
            }
            return new int[] {depths, balls.size(), gone, green, wet, strength, days, sizes,
                page.length(), read, searched, booked}[what];
        }

        long digest() {
            List<Integer> numbers = new ArrayList<>();
            if (depth != null) for (int p = 0; p < 20; p++) for (int w = 0; w < 3; w++) numbers.add(place(p, w));
            for (int b = 0; b < balls.size(); b++) {
                for (int w = 0; w < 7; w++) numbers.add(about(b, w));
                for (int s = 0; s < 4; s++) numbers.add(may(b, s));
            }
            numbers.add(highest(0));
            numbers.add(highest(1));
            numbers.add(lasts(1));
            for (char c : page.toCharArray()) numbers.add((int) c);
            for (int w = 0; w < 12; w++) numbers.add(count(w));
            long h = 727;
            for (int n : numbers) h = 31 * h + n;
            return h;
        }
    }
}
