import java.util.ArrayDeque;
import java.util.ArrayList;
import java.util.Arrays;
import java.util.List;
import java.util.Set;
import java.util.TreeSet;

/**
 * The document once more, as slowly and plainly as it can be written: POSES one by one in sets, each
 * EDGE kept under both its names. It is held against the class in ModelTest.
 */
final class Model {

    private static final int[] ROW_STEP = {-1, 0, 1, 0};
    private static final int[] COLUMN_STEP = {0, 1, 0, -1};
    private static final String OUT = "IndexOutOfBoundsException";
    private static final String WRONG = "IllegalArgumentException";
    private static final String REFUSED = "IllegalStateException";

    /** What a call that throws answers. */
    static final class Thrown extends RuntimeException {
        private static final long serialVersionUID = 1L;

        Thrown(String kind) {
            super(kind);
        }
    }

    private static final class Who {
        private int cell;
        private int facing;
        private int home;
        private int charge;
        private int lost;
        private int acts;
        private int bumps;
        private int slips;
        private final int[][] map = new int[36][4];
        private Set<Integer> belief = new TreeSet<>();
    }

    private final int[][] kind = new int[36][4];
    private final int[][] hours = new int[36][4];
    private final boolean[] carpet = new boolean[36];
    private final boolean[] barred = new boolean[36];
    private final List<Who> walkers = new ArrayList<>();
    private final List<Integer> drawn = new ArrayList<>();
    private int minute;
    private int meetings;
    private int disputes;
    private int refused;

    Model() {
        for (int cell = 0; cell < 36; cell++) {
            for (int side = 0; side < 4; side++) {
                kind[cell][side] = next(cell, side) < 0 ? 1 : 0;
            }
        }
    }

    private static int next(int cell, int side) {
        int row = cell / 6 + ROW_STEP[side];
        int column = cell % 6 + COLUMN_STEP[side];
        return row < 0 || row > 5 || column < 0 || column > 5 ? -1 : row * 6 + column;
    }

    private static void check(boolean isFit, String otherwise) {
        if (!isFit) {
            throw new Thrown(otherwise);
        }
    }

    private static void in(int value, int from, int to, String otherwise) {
        check(from <= value && value <= to, otherwise);
    }

    private Who who(int number) {
        in(number, 0, walkers.size() - 1, OUT);
        return walkers.get(number);
    }

    private int hour() {
        return (minute / 60) % 24;
    }

    private boolean isWallNow(int cell, int side) {
        return kind[cell][side] == 1 || kind[cell][side] == 2 && (hours[cell][side] & (1 << hour())) == 0;
    }

    private void put(int[][] rows, int cell, int side, int value) {
        int other = next(cell, side);
        if (other >= 0) {
            rows[cell][side] = value;
            rows[other][(side + 2) % 4] = value;
        }
    }

    // ---- the floor

    long edge(int cell, int side, int kindTold, int hoursTold) {
        in(cell, 0, 35, OUT);
        in(side, 0, 3, OUT);
        check(next(cell, side) >= 0, WRONG);
        in(kindTold, 0, 2, WRONG);
        in(hoursTold, 0, (1 << 24) - 1, WRONG);
        int was = kind[cell][side];
        put(kind, cell, side, kindTold);
        put(hours, cell, side, hoursTold);
        return was;
    }

    long lay(int seed) {
        in(seed, 0, 126, WRONG);
        int number = seed;
        for (int cell = 0; cell < 36; cell++) {
            for (int side = 1; side <= 2; side++) {
                if (next(cell, side) >= 0) {
                    number = (29 * number + 13) % 127;
                    put(kind, cell, side, number < 40 ? 1 : 0);
                }
            }
        }
        return house(2);
    }

    long cell(int cell, boolean isCarpet, boolean isBarred) {
        in(cell, 0, 35, OUT);
        carpet[cell] = isCarpet;
        barred[cell] = isBarred;
        return house(6);
    }

    // ---- walkers

    long walker(int cell, int facing, int charge, boolean isTold) {
        in(cell, 0, 35, OUT);
        in(facing, 0, 3, WRONG);
        in(charge, 1, 500, WRONG);
        check(walkers.size() < 3, REFUSED);
        Who w = new Who();
        w.cell = cell;
        w.home = cell;
        w.facing = facing;
        w.charge = charge;
        for (int at = 0; at < 36; at++) {
            for (int side = 0; side < 4; side++) {
                w.map[at][side] = next(at, side) < 0 ? 2 : 0;
            }
        }
        w.belief = isTold ? new TreeSet<>(Arrays.asList(cell * 4 + facing)) : allPoses();
        walkers.add(w);
        return walkers.size() - 1;
    }

    private static Set<Integer> allPoses() {
        Set<Integer> all = new TreeSet<>();
        for (int pose = 0; pose < 144; pose++) {
            all.add(pose);
        }
        return all;
    }

    private static int sureOf(Who w) {
        return w.belief.size() == 1 ? w.belief.iterator().next() : -1;
    }

    private void checkAct(Who w, boolean isForced) {
        check(w.charge > 0, REFUSED);
        check(isForced || isSafe(w), REFUSED);
        check(minute < 3000, REFUSED);
    }

    private void took(Who w) {
        w.charge -= 1;
        w.acts += 1;
        minute += 1;
    }

    private void believe(Who w, Set<Integer> then) {
        w.belief = then;
        if (then.isEmpty()) {
            w.belief = allPoses();
            w.lost += 1;
        }
    }

    long forward(int number, boolean isForced) {
        Who w = who(number);
        checkAct(w, isForced);
        int sure = sureOf(w);
        if (sure >= 0) {
            int ahead = next(sure / 4, sure % 4);
            check(ahead < 0 || !barred[ahead], REFUSED);
        }
        boolean isBump = isWallNow(w.cell, w.facing);
        if (isBump) {
            w.bumps += 1;
        } else if (carpet[w.cell] && drawNext() % 3 == 0) {
            w.slips += 1;
        } else {
            w.cell = next(w.cell, w.facing);
        }
        if (sure >= 0) {
            put(w.map, sure / 4, sure % 4, isBump ? 2 : 1);
        }
        believe(w, behindForward(w, isBump));
        took(w);
        return isBump ? 1 : 0;
    }

    private int drawNext() {
        int number = drawn.isEmpty() ? 7 : (29 * drawn.get(drawn.size() - 1) + 13) % 127;
        drawn.add(number);
        return number;
    }

    private static Set<Integer> behindForward(Who w, boolean isBump) {
        Set<Integer> then = new TreeSet<>();
        for (int pose : w.belief) {
            int known = w.map[pose / 4][pose % 4];
            if (isBump && known != 1) {
                then.add(pose);
            }
            if (!isBump && known != 2) {
                then.add(pose);
                then.add(next(pose / 4, pose % 4) * 4 + pose % 4);
            }
        }
        return then;
    }

    private static Set<Integer> behindFeel(Who w, int told) {
        Set<Integer> then = new TreeSet<>();
        for (int pose : w.belief) {
            boolean isFit = true;
            for (int k = 0; k < 3; k++) {
                int known = w.map[pose / 4][(pose % 4 + 3 + k) % 4];
                int due = (told & (1 << k)) != 0 ? 2 : 1;
                isFit &= known == 0 || known == due;
            }
            if (isFit) {
                then.add(pose);
            }
        }
        return then;
    }

    long turn(int number, boolean isRight, boolean isForced) {
        Who w = who(number);
        checkAct(w, isForced);
        int by = isRight ? 1 : 3;
        w.facing = (w.facing + by) % 4;
        Set<Integer> then = new TreeSet<>();
        for (int pose : w.belief) {
            then.add(pose / 4 * 4 + (pose % 4 + by) % 4);
        }
        believe(w, then);
        took(w);
        return w.belief.size();
    }

    long feel(int number, boolean isForced) {
        Who w = who(number);
        checkAct(w, isForced);
        int told = (int) wouldBe(w.cell, w.facing);
        int sure = sureOf(w);
        if (sure >= 0) {
            for (int k = 0; k < 3; k++) {
                put(w.map, sure / 4, (sure % 4 + 3 + k) % 4, (told & (1 << k)) != 0 ? 2 : 1);
            }
        }
        believe(w, behindFeel(w, told));
        took(w);
        return told;
    }

    long listen(int number, boolean isForced) {
        Who w = who(number);
        checkAct(w, isForced);
        int heard = 0;
        for (Who other : walkers) {
            int off = Math.abs(other.cell / 6 - w.cell / 6) + Math.abs(other.cell % 6 - w.cell % 6);
            heard += other != w && off <= 2 ? 1 : 0;
        }
        took(w);
        return heard;
    }

    long charge(int number, int charge) {
        Who w = who(number);
        in(charge, 1, 500, WRONG);
        check(w.cell == w.home, REFUSED);
        int was = w.charge;
        w.charge = charge;
        return was;
    }

    long tellPose(int number) {
        Who w = who(number);
        int was = w.belief.size();
        w.belief = new TreeSet<>(Arrays.asList(w.cell * 4 + w.facing));
        return was;
    }

    long meet(int one, int two) {
        Who a = who(one);
        Who b = who(two);
        check(one != two, WRONG);
        check(sureOf(a) >= 0 && sureOf(b) >= 0 && a.cell == b.cell, REFUSED);
        meetings += 1;
        int learned = 0;
        for (int cell = 0; cell < 36; cell++) {
            for (int side = 1; side <= 2; side++) {
                int ofA = a.map[cell][side];
                int ofB = b.map[cell][side];
                if (ofA == 0 && ofB != 0) {
                    put(a.map, cell, side, ofB);
                    learned += 1;
                } else if (ofB == 0 && ofA != 0) {
                    put(b.map, cell, side, ofA);
                    learned += 1;
                } else if (ofA != ofB) {
                    disputes += 1;
                }
            }
        }
        return learned;
    }

    long pass(int minutes) {
        in(minutes, 1, 600, WRONG);
        check(minute + minutes <= 3000, REFUSED);
        minute += minutes;
        return minute;
    }

    long call() {
        refused += 1;
        return refused;
    }

    // ---- what is so

    long ofEdge(int cell, int side, int what) {
        in(cell, 0, 35, OUT);
        in(side, 0, 3, OUT);
        in(what, 0, 2, WRONG);
        long[] all = {kind[cell][side], isWallNow(cell, side) ? 1 : 0, kind[cell][side] == 2 ? hours[cell][side] : 0};
        return all[what];
    }

    /** How many EDGES within the floor the MAP has so, now being a WALL or not as told (2: either way). */
    private int count(Who w, int state, int wallNow) {
        int count = 0;
        for (int cell = 0; cell < 36; cell++) {
            for (int side = 1; side <= 2; side++) {
                boolean isWanted = wallNow == 2 || isWallNow(cell, side) == (wallNow == 1);
                count += next(cell, side) >= 0 && w.map[cell][side] == state && isWanted ? 1 : 0;
            }
        }
        return count;
    }

    long ofWalker(int number, int what) {
        Who w = who(number);
        in(what, 0, 12, WRONG);
        long[] all = {w.cell * 4 + w.facing, w.home, w.charge, w.belief.size(), w.belief.size() == 1 ? 1 : 0,
            count(w, 1, 2), count(w, 2, 2), count(w, 1, 0) + count(w, 2, 1), count(w, 1, 1) + count(w, 2, 0),
            w.lost, w.acts, w.bumps, w.slips};
        return all[what];
    }

    long house(int what) {
        in(what, 0, 11, WRONG);
        int walls = 0;
        int doors = 0;
        int open = 0;
        int carpets = 0;
        int zones = 0;
        for (int cell = 0; cell < 36; cell++) {
            carpets += carpet[cell] ? 1 : 0;
            zones += barred[cell] ? 1 : 0;
            for (int side = 1; side <= 2; side++) {
                boolean isWithin = next(cell, side) >= 0;
                walls += isWithin && kind[cell][side] == 1 ? 1 : 0;
                doors += isWithin && kind[cell][side] == 2 ? 1 : 0;
                open += isWithin && kind[cell][side] == 2 && !isWallNow(cell, side) ? 1 : 0;
            }
        }
        long[] all = {minute, hour(), walls, doors, open, carpets, zones, walkers.size(), drawn.size(), meetings,
            disputes, refused};
        return all[what];
    }

    String row(int row) {
        in(row, 0, 5, OUT);
        String text = "";
        for (int cell = row * 6; cell < row * 6 + 6; cell++) {
            String sign = barred[cell] ? "x" : carpet[cell] ? "c" : ".";
            for (int number = walkers.size() - 1; number >= 0; number--) {
                sign = walkers.get(number).cell == cell ? "" + number : sign;
            }
            text += sign;
            text += cell % 6 == 5 ? "" : kind[cell][1] == 1 ? "|" : kind[cell][1] == 2 ? "/" : " ";
        }
        return text;
    }

    // ---- what a walker knows

    long map(int number, int cell, int side) {
        Who w = who(number);
        in(cell, 0, 35, OUT);
        in(side, 0, 3, OUT);
        return w.map[cell][side];
    }

    long may(int number, int pose) {
        Who w = who(number);
        in(pose, 0, 143, OUT);
        return w.belief.contains(pose) ? 1 : 0;
    }

    long where(int number, int facing) {
        Who w = who(number);
        in(facing, 0, 3, WRONG);
        long sum = 0;
        for (int pose : w.belief) {
            sum += pose % 4 == facing ? 1L << (pose / 4) : 0L;
        }
        return sum;
    }

    private static int[] waysFrom(Who w, int from) {
        int[] ways = new int[36];
        Arrays.fill(ways, -1);
        ways[from] = 0;
        ArrayDeque<Integer> open = new ArrayDeque<>();
        open.add(from);
        while (!open.isEmpty()) {
            int cell = open.remove();
            for (int side = 0; side < 4; side++) {
                if (w.map[cell][side] == 1 && ways[next(cell, side)] < 0) {
                    ways[next(cell, side)] = ways[cell] + 1;
                    open.add(next(cell, side));
                }
            }
        }
        return ways;
    }

    long way(int number, int from, int to) {
        Who w = who(number);
        in(from, 0, 35, OUT);
        in(to, 0, 35, OUT);
        return waysFrom(w, from)[to];
    }

    private static int wayHome(Who w) {
        return sureOf(w) < 0 ? -2 : waysFrom(w, sureOf(w) / 4)[w.home];
    }

    private static boolean isSafe(Who w) {
        int way = wayHome(w);
        return way >= 0 ? w.charge - 1 >= way * 2 + 2 : w.charge > 20;
    }

    private static int goal(Who w) {
        if (sureOf(w) < 0) {
            return -2;
        }
        int[] ways = waysFrom(w, sureOf(w) / 4);
        int best = -1;
        for (int cell = 0; cell < 36; cell++) {
            boolean isUnknown = false;
            for (int side = 0; side < 4; side++) {
                isUnknown |= w.map[cell][side] == 0;
            }
            if (isUnknown && ways[cell] >= 0 && (best < 0 || ways[cell] < ways[best])) {
                best = cell;
            }
        }
        return best;
    }

    long safety(int number, int what) {
        Who w = who(number);
        in(what, 0, 3, WRONG);
        int way = wayHome(w);
        long[] all = {way, way < 0 ? way : way * 2 + 2, isSafe(w) ? 1 : 0, goal(w)};
        return all[what];
    }

    double doubt(int number) {
        Set<Integer> cells = new TreeSet<>();
        for (int pose : who(number).belief) {
            cells.add(pose / 4);
        }
        return cells.size() / 36.0;
    }

    // ---- what would be

    long worst(int number, int act) {
        Who w = who(number);
        in(act, 0, 3, WRONG);
        if (act == 0) {
            return Math.max(behindForward(w, true).size(), behindForward(w, false).size());
        }
        long worst = 0;
        for (int answer = 0; answer < 8; answer++) {
            worst = Math.max(worst, wouldFeel(number, answer));
        }
        return act == 3 ? worst : w.belief.size();
    }

    long best(int number) {
        who(number);
        for (int act = 0; act < 4; act++) {
            boolean isLeast = true;
            for (int other = 0; other < 4; other++) {
                isLeast &= worst(number, act) <= worst(number, other);
            }
            if (isLeast) {
                return act;
            }
        }
        return -1;
    }

    long wouldFeel(int number, int answer) {
        Who w = who(number);
        in(answer, 0, 7, WRONG);
        return behindFeel(w, answer).size();
    }

    long wouldBe(int cell, int facing) {
        in(cell, 0, 35, OUT);
        in(facing, 0, 3, WRONG);
        int told = 0;
        told += isWallNow(cell, (facing + 3) % 4) ? 1 : 0;
        told += isWallNow(cell, facing) ? 2 : 0;
        told += isWallNow(cell, (facing + 1) % 4) ? 4 : 0;
        return told;
    }

    long isSound() {
        boolean isSound = true;
        for (int number = 0; number < walkers.size(); number++) {
            Who w = walkers.get(number);
            isSound &= w.belief.size() >= 1 && w.belief.size() <= 144;
            isSound &= ofWalker(number, 5) + ofWalker(number, 6) == ofWalker(number, 7) + ofWalker(number, 8);
            isSound &= w.charge >= 0 && w.charge <= 500 && w.acts >= w.bumps + w.slips;
        }
        return isSound ? 1 : 0;
    }

    long digest() {
        List<Long> values = new ArrayList<>();
        for (int what = 0; what <= 11; what++) {
            values.add(house(what));
        }
        for (int cell = 0; cell < 36; cell++) {
            for (int side = 1; side <= 2; side++) {
                values.add(ofEdge(cell, side, 0));
                values.add(ofEdge(cell, side, 1));
            }
        }
        for (int number = 0; number < walkers.size(); number++) {
            digestOf(number, values);
        }
        values.add(isSound());
        long d = 58286;
        for (long value : values) {
            d = d * 31 + value;
        }
        return d;
    }

    private void digestOf(int number, List<Long> values) {
        for (int what = 0; what <= 12; what++) {
            values.add(ofWalker(number, what));
        }
        for (int k = 0; k < 4; k++) {
            values.add(where(number, k));
        }
        for (int k = 0; k < 4; k++) {
            values.add(safety(number, k));
        }
        for (int k = 0; k < 4; k++) {
            values.add(worst(number, k));
        }
        values.add(best(number));
        values.add((long) (doubt(number) * 64));
        for (int cell = 0; cell < 36; cell++) {
            values.add(map(number, cell, 1));
            values.add(map(number, cell, 2));
        }
    }
}
