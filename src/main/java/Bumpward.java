/**
 * A hidden floor, walkers that cannot see it, and what each of them knows. The words in capitals are
 * those of the document.
 *
 * <p>Sets of CELLS are kept as the bits of a long (the CELL k as 2^k), one for each of the four sides
 * or facings, so that no call needs to make rows of its own.
 */
public final class Bumpward {

    private static final int NONE = -1;
    private static final int NOT_SURE = -2;

    private static final int WIDTH = 6;
    private static final int CELLS = 36;
    private static final int SIDES = 4;
    private static final int POSES = 144;

    private static final int UP = 0;
    private static final int RIGHT = 1;
    private static final int DOWN = 2;
    private static final int LEFT = 3;

    private static final int MOST_WALKERS = 3;
    private static final int MOST_MINUTES = 3000;
    private static final int MOST_WAIT = 600;
    private static final int MOST_CHARGE = 500;
    private static final int MOST_HOURS = 16777215;
    private static final int CHARGE_WITHOUT_RETURN = 20;

    private static final int FORWARD = 0;
    private static final int FEEL = 3;
    private static final int ACTS = 4;
    private static final int FELT_SETS = 8;

    private static final int FIRST_DRAWN = 7;
    private static final int NUMBERS = 127;
    private static final int WALLS_BELOW = 40;

    private static final long FIRST_DIGEST = 58286L;

    private final Floor floor;
    private final Walker[] walkers;
    private int walkerCount;
    private int minute;
    private int nextDrawn;
    private int drawn;
    private int meetings;
    private int disputes;
    private int refused;

    public Bumpward() {
        floor = new Floor();
        walkers = new Walker[MOST_WALKERS];
        nextDrawn = FIRST_DRAWN;
    }

    // ---- the floor

    public int edge(int cell, int side, int kind, int hours)
            throws IndexOutOfBoundsException, IllegalArgumentException {
        requireCell(cell);
        requireSide(side);
        require(Grid.ahead(cell, side) != NONE);
        requireWithin(kind, 0, Floor.DOOR);
        requireWithin(hours, 0, MOST_HOURS);
        int before = floor.kindOf(cell, side);
        floor.tell(cell, side, kind, hours);
        return before;
    }

    public int lay(int seed) throws IllegalArgumentException {
        requireWithin(seed, 0, NUMBERS - 1);
        floor.layBySeed(seed);
        return floor.countOf(Floor.WALL);
    }

    public int cell(int cell, boolean isCarpet, boolean isBarred) throws IndexOutOfBoundsException {
        requireCell(cell);
        floor.tellCell(cell, isCarpet, isBarred);
        return Long.bitCount(floor.barred);
    }

    // ---- walkers

    public int walker(int cell, int facing, int charge, boolean isTold)
            throws IndexOutOfBoundsException, IllegalArgumentException, IllegalStateException {
        requireCell(cell);
        requireWithin(facing, 0, SIDES - 1);
        requireWithin(charge, 1, MOST_CHARGE);
        int number = walkerCount;
        if (number < 0 || number >= walkers.length) {
            throw new IllegalStateException("there is no room for another walker");
        }
        walkers[number] = new Walker(cell, facing, charge, isTold);
        walkerCount = number + 1;
        return number;
    }

    public boolean forward(int walker, boolean isForced) throws IndexOutOfBoundsException, IllegalStateException {
        Walker who = known(walker);
        requireAct(who, isForced);
        if (isBarredAhead(who)) {
            throw new IllegalStateException("the cell ahead is barred");
        }
        boolean isBump = floor.isClosed(who.cellNow(), who.facingNow(), hourNow());
        if (isBump) {
            who.bumps++;
        } else {
            stepOrSlip(who);
        }
        who.learnForward(isBump);
        finishAct(who);
        return isBump;
    }

    public int turn(int walker, boolean isRight, boolean isForced)
            throws IndexOutOfBoundsException, IllegalStateException {
        Walker who = known(walker);
        requireAct(who, isForced);
        who.rotate(isRight);
        finishAct(who);
        return who.belief.size();
    }

    public int feel(int walker, boolean isForced) throws IndexOutOfBoundsException, IllegalStateException {
        Walker who = known(walker);
        requireAct(who, isForced);
        int told = floor.feltAt(who.cellNow(), who.facingNow(), hourNow());
        who.learnFelt(told);
        finishAct(who);
        return told;
    }

    public int listen(int walker, boolean isForced) throws IndexOutOfBoundsException, IllegalStateException {
        Walker who = known(walker);
        requireAct(who, isForced);
        int heard = 0;
        for (int number = 0; number < walkers.length; number++) {
            Walker other = walkers[number];
            if (number != walker && other != null && Grid.isNear(who.cellNow(), other.cellNow())) {
                heard++;
            }
        }
        finishAct(who);
        return heard;
    }

    public int charge(int walker, int charge)
            throws IndexOutOfBoundsException, IllegalArgumentException, IllegalStateException {
        Walker who = known(walker);
        requireWithin(charge, 1, MOST_CHARGE);
        if (who.cellNow() != who.home) {
            throw new IllegalStateException("the walker is not in its home");
        }
        int before = who.charge;
        who.charge = charge;
        return before;
    }

    public int tellPose(int walker) throws IndexOutOfBoundsException {
        Walker who = known(walker);
        int before = who.belief.size();
        who.belief.setOnly(who.pose);
        return before;
    }

    public int meet(int one, int two)
            throws IndexOutOfBoundsException, IllegalArgumentException, IllegalStateException {
        Walker first = known(one);
        Walker second = known(two);
        require(one != two);
        if (!first.isSure() || !second.isSure() || first.cellNow() != second.cellNow()) {
            throw new IllegalStateException("these walkers can not meet");
        }
        meetings++;
        disputes += first.map.disputesWith(second.map);
        return first.map.learnFrom(second.map) + second.map.learnFrom(first.map);
    }

    public int pass(int minutes) throws IllegalArgumentException, IllegalStateException {
        requireWithin(minutes, 1, MOST_WAIT);
        if (minute + minutes > MOST_MINUTES) {
            throw new IllegalStateException("there are not so many minutes left");
        }
        minute += minutes;
        return minute;
    }

    public int call() {
        refused++;
        return refused;
    }

    // ---- what is so

    public int ofEdge(int cell, int side, int what) throws IndexOutOfBoundsException, IllegalArgumentException {
        requireCell(cell);
        requireSide(side);
        requireWithin(what, 0, 2);
        switch (what) {
            case 0:
                return floor.kindOf(cell, side);
            case 1:
                return asNumber(floor.isClosed(cell, side, hourNow()));
            default:
                return floor.hoursOf(cell, side);
        }
    }

    public int ofWalker(int walker, int what) throws IndexOutOfBoundsException, IllegalArgumentException {
        Walker who = known(walker);
        requireWithin(what, 0, 12);
        switch (what) {
            case 7:
                return floor.countKnown(who.map, true, hourNow());
            case 8:
                return floor.countKnown(who.map, false, hourNow());
            default:
                return who.figure(what);
        }
    }

    public int house(int what) throws IllegalArgumentException {
        requireWithin(what, 0, 11);
        switch (what) {
            case 0:
                return minute;
            case 1:
                return hourNow();
            case 2:
                return floor.countOf(Floor.WALL);
            case 3:
                return floor.countOf(Floor.DOOR);
            case 4:
                return floor.countOpenDoors(hourNow());
            case 5:
                return Long.bitCount(floor.carpets);
            case 6:
                return Long.bitCount(floor.barred);
            case 7:
                return walkerCount;
            case 8:
                return drawn;
            case 9:
                return meetings;
            case 10:
                return disputes;
            default:
                return refused;
        }
    }

    public String row(int row) throws IndexOutOfBoundsException {
        if (row < 0 || row >= WIDTH) {
            throw new IndexOutOfBoundsException("there is no such row");
        }
        StringBuilder text = new StringBuilder();
        for (int column = 0; column < WIDTH; column++) {
            int cell = row * WIDTH + column;
            text.append(signOfCell(cell));
            if (column < WIDTH - 1) {
                text.append(signOfKind(floor.kindOf(cell, RIGHT)));
            }
        }
        return text.toString();
    }

    // ---- what a walker knows

    public int map(int walker, int cell, int side) throws IndexOutOfBoundsException {
        Walker who = known(walker);
        requireCell(cell);
        requireSide(side);
        return who.map.stateOf(cell, side);
    }

    public boolean may(int walker, int pose) throws IndexOutOfBoundsException {
        Walker who = known(walker);
        if (pose < 0 || pose >= POSES) {
            throw new IndexOutOfBoundsException("there is no such pose");
        }
        return who.belief.holds(pose);
    }

    public long where(int walker, int facing) throws IndexOutOfBoundsException, IllegalArgumentException {
        Walker who = known(walker);
        requireWithin(facing, 0, SIDES - 1);
        return who.belief.cells[facing];
    }

    public int way(int walker, int from, int to) throws IndexOutOfBoundsException {
        Walker who = known(walker);
        requireCell(from);
        requireCell(to);
        return who.map.wayBetween(from, to);
    }

    public int safety(int walker, int what) throws IndexOutOfBoundsException, IllegalArgumentException {
        Walker who = known(walker);
        requireWithin(what, 0, 3);
        switch (what) {
            case 0:
                return who.wayHome();
            case 1:
                return Walker.costOf(who.wayHome());
            case 2:
                return asNumber(who.isSafe());
            default:
                return who.goal();
        }
    }

    public double doubt(int walker) throws IndexOutOfBoundsException {
        Walker who = known(walker);
        return Long.bitCount(who.belief.anyFacing()) / (double) CELLS;
    }

    // ---- what would be (nothing is changed)

    public int worst(int walker, int act) throws IndexOutOfBoundsException, IllegalArgumentException {
        Walker who = known(walker);
        requireWithin(act, 0, ACTS - 1);
        return who.worstOf(act);
    }

    public int best(int walker) throws IndexOutOfBoundsException {
        Walker who = known(walker);
        int best = 0;
        for (int act = 1; act < ACTS; act++) {
            if (who.worstOf(act) < who.worstOf(best)) {
                best = act;
            }
        }
        return best;
    }

    public int wouldFeel(int walker, int answer) throws IndexOutOfBoundsException, IllegalArgumentException {
        Walker who = known(walker);
        requireWithin(answer, 0, FELT_SETS - 1);
        return who.belief.sizeIfFelt(answer, who.map);
    }

    public int wouldBe(int cell, int facing) throws IndexOutOfBoundsException, IllegalArgumentException {
        requireCell(cell);
        requireWithin(facing, 0, SIDES - 1);
        return floor.feltAt(cell, facing, hourNow());
    }

    public boolean isSound() {
        for (int number = 0; number < walkers.length; number++) {
            Walker who = walkers[number];
            if (who != null && !(who.isInOrder() && isCountedRight(who))) {
                return false;
            }
        }
        return true;
    }

    public long digest() {
        long sum = FIRST_DIGEST;
        for (int what = 0; what <= 11; what++) {
            sum = joined(sum, house(what));
        }
        for (int cell = 0; cell < CELLS; cell++) {
            for (int side = RIGHT; side <= DOWN; side++) {
                sum = joined(sum, ofEdge(cell, side, 0));
                sum = joined(sum, ofEdge(cell, side, 1));
            }
        }
        for (int number = 0; number < walkerCount; number++) {
            sum = joinedWalker(sum, number);
        }
        return joined(sum, asNumber(isSound()));
    }

    // ---- the parts of the calls

    private long joinedWalker(long before, int number) {
        long sum = before;
        for (int what = 0; what <= 12; what++) {
            sum = joined(sum, ofWalker(number, what));
        }
        for (int facing = 0; facing < SIDES; facing++) {
            sum = joined(sum, where(number, facing));
        }
        for (int what = 0; what <= 3; what++) {
            sum = joined(sum, safety(number, what));
        }
        for (int act = 0; act < ACTS; act++) {
            sum = joined(sum, worst(number, act));
        }
        sum = joined(sum, best(number));
        sum = joined(sum, (long) (64 * doubt(number)));
        for (int cell = 0; cell < CELLS; cell++) {
            sum = joined(sum, map(number, cell, RIGHT));
            sum = joined(sum, map(number, cell, DOWN));
        }
        return sum;
    }

    private static long joined(long sum, long value) {
        return sum * 31 + value;
    }

    private static int asNumber(boolean isSo) {
        return isSo ? 1 : 0;
    }

    private static int numberBehind(int number) {
        return (29 * number + 13) % NUMBERS;
    }

    private static void require(boolean isFit) {
        if (!isFit) {
            throw new IllegalArgumentException("an argument does not fit");
        }
    }

    private static void requireWithin(int value, int least, int most) {
        require(value >= least && value <= most);
    }

    private static void requireCell(int cell) {
        if (cell < 0 || cell >= CELLS) {
            throw new IndexOutOfBoundsException("there is no such cell");
        }
    }

    private static void requireSide(int side) {
        if (side < 0 || side >= SIDES) {
            throw new IndexOutOfBoundsException("there is no such side");
        }
    }

    private Walker known(int number) {
        if (number < 0 || number >= walkers.length || walkers[number] == null) {
            throw new IndexOutOfBoundsException("there is no such walker");
        }
        return walkers[number];
    }

    private void requireAct(Walker who, boolean isForced) {
        if (who.charge <= 0) {
            throw new IllegalStateException("the walker has no charge");
        }
        if (!isForced && !who.isSafe()) {
            throw new IllegalStateException("the act is not safe");
        }
        if (minute >= MOST_MINUTES) {
            throw new IllegalStateException("there are no minutes left");
        }
    }

    private void finishAct(Walker who) {
        who.acts++;
        who.charge--;
        minute++;
    }

    private boolean isBarredAhead(Walker who) {
        int pose = who.belief.onlyPose();
        if (pose == NONE) {
            return false;
        }
        int ahead = Grid.ahead(pose / SIDES, pose % SIDES);
        return ahead != NONE && Grid.has(floor.barred, ahead);
    }

    private void stepOrSlip(Walker who) {
        if (Grid.has(floor.carpets, who.cellNow()) && draw() % 3 == 0) {
            who.slips++;
        } else {
            who.step();
        }
    }

    private int draw() {
        int number = nextDrawn;
        nextDrawn = numberBehind(number);
        drawn++;
        return number;
    }

    private int hourNow() {
        return minute / 60 % 24;
    }

    private char signOfCell(int cell) {
        for (int number = 0; number < walkers.length; number++) {
            Walker who = walkers[number];
            if (who != null && who.cellNow() == cell) {
                return (char) ('0' + number);
            }
        }
        if (Grid.has(floor.barred, cell)) {
            return 'x';
        }
        return Grid.has(floor.carpets, cell) ? 'c' : '.';
    }

    private static char signOfKind(int kind) {
        switch (kind) {
            case Floor.WALL:
                return '|';
            case Floor.DOOR:
                return '/';
            default:
                return ' ';
        }
    }

    private boolean isCountedRight(Walker who) {
        int hour = hourNow();
        int right = floor.countKnown(who.map, true, hour);
        int wrong = floor.countKnown(who.map, false, hour);
        return right + wrong == who.map.countFree() + who.map.countWalls();
    }

    /** How CELLS lie to one another. */
    private static final class Grid {

        static final long ALL = 68719476735L;

        /** For each SIDE the CELLS that have the outside there. */
        private static final long[] OUTER = {63L, 34905131040L, 67645734912L, 1090785345L};

        static boolean has(long cells, int cell) {
            return ((cells >>> cell) & 1L) != 0L;
        }

        static long[] outerCells() {
            return OUTER.clone();
        }

        static int ahead(int cell, int side) {
            int row = cell / WIDTH;
            int column = cell % WIDTH;
            switch (side) {
                case UP:
                    return row > 0 ? cell - WIDTH : NONE;
                case RIGHT:
                    return column < WIDTH - 1 ? cell + 1 : NONE;
                case DOWN:
                    return row < WIDTH - 1 ? cell + WIDTH : NONE;
                default:
                    return column > 0 ? cell - 1 : NONE;
            }
        }

        /** The CELLS one further; none of those given may have the outside on that SIDE. */
        static long moved(long cells, int side) {
            switch (side) {
                case UP:
                    return cells >>> WIDTH;
                case RIGHT:
                    return cells << 1;
                case DOWN:
                    return cells << WIDTH;
                default:
                    return cells >>> 1;
            }
        }

        /** The SIDE that is felt as the number k of a FEEL: 0 left of the FACING, 1 ahead, 2 right. */
        static int feltSide(int facing, int k) {
            return (facing + 3 + k) & 3;
        }

        static boolean isNear(int one, int two) {
            int rows = Math.abs(one / WIDTH - two / WIDTH);
            int columns = Math.abs(one % WIDTH - two % WIDTH);
            return rows + columns <= 2;
        }
    }

    /** The floor as it is. An EDGE has one place in the rows: the CELL above or left of it, twice. */
    private static final class Floor {

        static final int FREE = 0;
        static final int WALL = 1;
        static final int DOOR = 2;

        private static final int PLACES = 72;

        private final int[] kinds = new int[PLACES];
        private final int[] hours = new int[PLACES];
        private long carpets;
        private long barred;

        /** NONE for an EDGE to the outside, which has no place. */
        private static int placeOf(int cell, int side) {
            int beyond = Grid.ahead(cell, side);
            if (beyond == NONE) {
                return NONE;
            }
            int firstOfBoth = Math.min(cell, beyond) * 2;
            return side == UP || side == DOWN ? firstOfBoth + 1 : firstOfBoth;
        }

        private static boolean isPlace(int place) {
            return place >= 0 && place < PLACES;
        }

        void tell(int cell, int side, int kind, int hoursOpen) {
            int place = placeOf(cell, side);
            if (isPlace(place)) {
                kinds[place] = kind;
                hours[place] = kind == DOOR ? hoursOpen : 0;
            }
        }

        void layBySeed(int seed) {
            int number = seed;
            for (int cell = 0; cell < CELLS; cell++) {
                for (int side = RIGHT; side <= DOWN; side++) {
                    if (Grid.ahead(cell, side) != NONE) {
                        number = numberBehind(number);
                        tell(cell, side, number < WALLS_BELOW ? WALL : FREE, 0);
                    }
                }
            }
        }

        void tellCell(int cell, boolean isCarpet, boolean isBarred) {
            long bit = 1L << cell;
            carpets = isCarpet ? carpets | bit : carpets & ~bit;
            barred = isBarred ? barred | bit : barred & ~bit;
        }

        int kindOf(int cell, int side) {
            int place = placeOf(cell, side);
            return isPlace(place) ? kinds[place] : WALL;
        }

        int hoursOf(int cell, int side) {
            int place = placeOf(cell, side);
            return isPlace(place) ? hours[place] : 0;
        }

        boolean isClosed(int cell, int side, int hour) {
            int place = placeOf(cell, side);
            if (!isPlace(place) || kinds[place] == WALL) {
                return true;
            }
            return kinds[place] == DOOR && !isOpenAt(hours[place], hour);
        }

        private static boolean isOpenAt(int hoursOpen, int hour) {
            return ((hoursOpen >>> hour) & 1) != 0;
        }

        int feltAt(int cell, int facing, int hour) {
            int told = 0;
            for (int k = 0; k < 3; k++) {
                if (isClosed(cell, Grid.feltSide(facing, k), hour)) {
                    told |= 1 << k;
                }
            }
            return told;
        }

        int countOf(int kind) {
            int count = 0;
            for (int place = 0; place < PLACES; place++) {
                if (kinds[place] == kind) {
                    count++;
                }
            }
            return count;
        }

        int countOpenDoors(int hour) {
            int count = 0;
            for (int place = 0; place < PLACES; place++) {
                if (kinds[place] == DOOR && isOpenAt(hours[place], hour)) {
                    count++;
                }
            }
            return count;
        }

        /** RIGHT of a MAP, or WRONG. */
        int countKnown(WalkerMap map, boolean isRight, int hour) {
            int count = 0;
            for (int cell = 0; cell < CELLS; cell++) {
                for (int side = RIGHT; side <= DOWN; side++) {
                    int state = map.stateOf(cell, side);
                    if (Grid.ahead(cell, side) != NONE && state != WalkerMap.UNKNOWN) {
                        boolean isSame = isClosed(cell, side, hour) == (state == WalkerMap.WALL);
                        count += asNumber(isSame == isRight);
                    }
                }
            }
            return count;
        }
    }

    /** What a WALKER knows of the EDGES: for each SIDE the CELLS whose EDGE there is FREE, or WALL. */
    private static final class WalkerMap {

        static final int UNKNOWN = 0;
        static final int FREE = 1;
        static final int WALL = 2;

        private static final int OUTER_RIGHT_AND_BELOW = 12;

        private final long[] free = new long[SIDES];
        private final long[] wall = Grid.outerCells();

        int stateOf(int cell, int side) {
            if (Grid.has(free[side], cell)) {
                return FREE;
            }
            return Grid.has(wall[side], cell) ? WALL : UNKNOWN;
        }

        /** EDGES to the outside stay as they are. */
        void put(int cell, int side, boolean isWall) {
            int beyond = Grid.ahead(cell, side);
            if (beyond != NONE) {
                mark(cell, side, isWall);
                mark(beyond, (side + 2) & 3, isWall);
            }
        }

        private void mark(int cell, int side, boolean isWall) {
            long bit = 1L << cell;
            free[side] = isWall ? free[side] & ~bit : free[side] | bit;
            wall[side] = isWall ? wall[side] | bit : wall[side] & ~bit;
        }

        /** The CELLS whose EDGE on that SIDE is as told, or UNKNOWN. */
        long fitting(int side, boolean isWall) {
            return Grid.ALL & ~(isWall ? free[side] : wall[side]);
        }

        private long unknownOn(int side) {
            return Grid.ALL & ~free[side] & ~wall[side];
        }

        // Each EDGE within the floor is the right or the lower one of just one CELL.

        int countFree() {
            return Long.bitCount(free[RIGHT]) + Long.bitCount(free[DOWN]);
        }

        int countWalls() {
            return Long.bitCount(wall[RIGHT]) + Long.bitCount(wall[DOWN]) - OUTER_RIGHT_AND_BELOW;
        }

        private int countUnknown() {
            return Long.bitCount(unknownOn(RIGHT)) + Long.bitCount(unknownOn(DOWN));
        }

        int disputesWith(WalkerMap other) {
            int count = 0;
            for (int side = RIGHT; side <= DOWN; side++) {
                count += Long.bitCount(free[side] & other.wall[side]);
                count += Long.bitCount(wall[side] & other.free[side]);
            }
            return count;
        }

        /** How many EDGES become known here by that. */
        int learnFrom(WalkerMap other) {
            int before = countUnknown();
            for (int side = 0; side < SIDES; side++) {
                long unknown = unknownOn(side);
                free[side] |= unknown & other.free[side];
                wall[side] |= unknown & other.wall[side];
            }
            return before - countUnknown();
        }

        private long withNeighbours(long cells) {
            long above = (cells & free[UP]) >>> WIDTH;
            long right = (cells & free[RIGHT]) << 1;
            long below = (cells & free[DOWN]) << WIDTH;
            long left = (cells & free[LEFT]) >>> 1;
            return cells | above | right | below | left;
        }

        int wayBetween(int from, int to) {
            long reached = 1L << from;
            for (int steps = 0; steps < CELLS; steps++) {
                if (Grid.has(reached, to)) {
                    return steps;
                }
                reached = withNeighbours(reached);
            }
            return NONE;
        }

        int goalFrom(int from) {
            long unknown = 0L;
            for (int side = 0; side < SIDES; side++) {
                unknown |= unknownOn(side);
            }
            long reached = 1L << from;
            for (int steps = 0; steps < CELLS; steps++) {
                int nearest = firstOf(reached & unknown);
                if (nearest != NONE) {
                    return nearest;
                }
                reached = withNeighbours(reached);
            }
            return NONE;
        }

        private static int firstOf(long cells) {
            for (int cell = 0; cell < CELLS; cell++) {
                if (Grid.has(cells, cell)) {
                    return cell;
                }
            }
            return NONE;
        }
    }

    /** The POSES in which a WALKER may be: for each FACING the CELLS. */
    private static final class Belief {

        private final long[] cells = new long[SIDES];

        void setAll() {
            for (int facing = 0; facing < SIDES; facing++) {
                cells[facing] = Grid.ALL;
            }
        }

        void setOnly(int pose) {
            for (int facing = 0; facing < SIDES; facing++) {
                cells[facing] = facing == pose % SIDES ? 1L << (pose / SIDES) : 0L;
            }
        }

        int size() {
            int size = 0;
            for (int facing = 0; facing < SIDES; facing++) {
                size += Long.bitCount(cells[facing]);
            }
            return size;
        }

        boolean holds(int pose) {
            return Grid.has(cells[pose & 3], pose / SIDES);
        }

        long anyFacing() {
            long any = 0L;
            for (int facing = 0; facing < SIDES; facing++) {
                any |= cells[facing];
            }
            return any;
        }

        /** NONE, if there are several. */
        int onlyPose() {
            if (size() != 1) {
                return NONE;
            }
            for (int pose = 0; pose < POSES; pose++) {
                if (Grid.has(cells[pose % SIDES], pose / SIDES)) {
                    return pose;
                }
            }
            return NONE;
        }

        private long ifForward(int facing, boolean isBump, WalkerMap map) {
            long staying = cells[facing] & map.fitting(facing, isBump);
            return isBump ? staying : staying | Grid.moved(staying, facing);
        }

        private long ifFelt(int facing, int told, WalkerMap map) {
            long staying = cells[facing];
            for (int k = 0; k < 3; k++) {
                staying &= map.fitting(Grid.feltSide(facing, k), ((told >>> k) & 1) != 0);
            }
            return staying;
        }

        void changeByForward(boolean isBump, WalkerMap map) {
            for (int facing = 0; facing < SIDES; facing++) {
                cells[facing] = ifForward(facing, isBump, map);
            }
        }

        void changeByFelt(int told, WalkerMap map) {
            for (int facing = 0; facing < SIDES; facing++) {
                cells[facing] = ifFelt(facing, told, map);
            }
        }

        void rotateRight() {
            long last = cells[SIDES - 1];
            for (int facing = SIDES - 1; facing > 0; facing--) {
                cells[facing] = cells[facing - 1];
            }
            cells[0] = last;
        }

        void rotateLeft() {
            long first = cells[0];
            for (int facing = 0; facing < SIDES - 1; facing++) {
                cells[facing] = cells[facing + 1];
            }
            cells[SIDES - 1] = first;
        }

        int sizeIfForward(boolean isBump, WalkerMap map) {
            int size = 0;
            for (int facing = 0; facing < SIDES; facing++) {
                size += Long.bitCount(ifForward(facing, isBump, map));
            }
            return size;
        }

        int sizeIfFelt(int told, WalkerMap map) {
            int size = 0;
            for (int facing = 0; facing < SIDES; facing++) {
                size += Long.bitCount(ifFelt(facing, told, map));
            }
            return size;
        }
    }

    /** A WALKER as it is, with what it knows. */
    private static final class Walker {

        private final int home;
        private final WalkerMap map = new WalkerMap();
        private final Belief belief = new Belief();
        private int pose;
        private int charge;
        private int lost;
        private int acts;
        private int bumps;
        private int slips;

        Walker(int cell, int facing, int charge, boolean isTold) {
            home = cell;
            pose = cell * SIDES + facing;
            this.charge = charge;
            if (isTold) {
                belief.setOnly(pose);
            } else {
                belief.setAll();
            }
        }

        int cellNow() {
            return pose / SIDES;
        }

        int facingNow() {
            return pose % SIDES;
        }

        boolean isSure() {
            return belief.size() == 1;
        }

        void step() {
            int ahead = Grid.ahead(cellNow(), facingNow());
            if (ahead != NONE) {
                pose = ahead * SIDES + facingNow();
            }
        }

        void rotate(boolean isRight) {
            int facing = (facingNow() + (isRight ? 1 : 3)) & 3;
            pose = cellNow() * SIDES + facing;
            if (isRight) {
                belief.rotateRight();
            } else {
                belief.rotateLeft();
            }
        }

        void learnForward(boolean isBump) {
            int sure = belief.onlyPose();
            if (sure != NONE) {
                map.put(sure / SIDES, sure % SIDES, isBump);
            }
            belief.changeByForward(isBump, map);
            startAnewIfLost();
        }

        void learnFelt(int told) {
            int sure = belief.onlyPose();
            if (sure != NONE) {
                for (int k = 0; k < 3; k++) {
                    map.put(sure / SIDES, Grid.feltSide(sure % SIDES, k), ((told >>> k) & 1) != 0);
                }
            }
            belief.changeByFelt(told, map);
            startAnewIfLost();
        }

        private void startAnewIfLost() {
            if (belief.size() == 0) {
                belief.setAll();
                lost++;
            }
        }

        int wayHome() {
            int sure = belief.onlyPose();
            return sure == NONE ? NOT_SURE : map.wayBetween(sure / SIDES, home);
        }

        /** NONE and NOT_SURE stay what they are. */
        static int costOf(int way) {
            return way < 0 ? way : 2 * way + 2;
        }

        boolean isSafe() {
            int cost = costOf(wayHome());
            return cost < 0 ? charge > CHARGE_WITHOUT_RETURN : charge - 1 >= cost;
        }

        int goal() {
            int sure = belief.onlyPose();
            return sure == NONE ? NOT_SURE : map.goalFrom(sure / SIDES);
        }

        int worstOf(int act) {
            switch (act) {
                case FORWARD:
                    return Math.max(belief.sizeIfForward(true, map), belief.sizeIfForward(false, map));
                case FEEL:
                    int worst = 0;
                    for (int told = 0; told < FELT_SETS; told++) {
                        worst = Math.max(worst, belief.sizeIfFelt(told, map));
                    }
                    return worst;
                default:
                    return belief.size();
            }
        }

        /** The numbers of ofWalker that need nothing of the floor. */
        int figure(int what) {
            switch (what) {
                case 0:
                    return pose;
                case 1:
                    return home;
                case 2:
                    return charge;
                case 3:
                    return belief.size();
                case 4:
                    return asNumber(isSure());
                case 5:
                    return map.countFree();
                case 6:
                    return map.countWalls();
                case 9:
                    return lost;
                case 10:
                    return acts;
                case 11:
                    return bumps;
                default:
                    return slips;
            }
        }

        boolean isInOrder() {
            int size = belief.size();
            return size >= 1 && size <= POSES
                    && charge >= 0 && charge <= MOST_CHARGE
                    && pose >= 0 && pose < POSES
                    && acts >= bumps + slips;
        }
    }
}
