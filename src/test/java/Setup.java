/** Objects that several tests begin with, and what one does with them again and again. */
final class Setup {

    static final int FORWARD = 0;
    static final int LEFT = 1;
    static final int RIGHT = 2;
    static final int FEEL = 3;
    static final int LISTEN = 4;
    static final String[] ACTS = {"forward", "left", "right", "feel", "listen"};

    private Setup() {
    }

    /** Each act by its number; what it answers is for tests of just that act. */
    static void act(Bumpward b, int walker, int act, boolean isForced) {
        switch (act) {
            case FORWARD:
                b.forward(walker, isForced);
                break;
            case FEEL:
                b.feel(walker, isForced);
                break;
            case LISTEN:
                b.listen(walker, isForced);
                break;
            default:
                b.turn(walker, act == RIGHT, isForced);
        }
    }

    static void turnAround(Bumpward b, int walker) {
        b.turn(walker, true, true);
        b.turn(walker, true, true);
    }

    /** Whether the EDGE there is one to the outside. */
    static boolean isOuter(int cell, int side) {
        return beyond(cell, side) < 0;
    }

    /** The CELL next to that one, or -1 for the outside. */
    static int beyond(int cell, int side) {
        int row = cell / 6 + (side == 0 ? -1 : side == 2 ? 1 : 0);
        int column = cell % 6 + (side == 3 ? -1 : side == 1 ? 1 : 0);
        return row < 0 || row > 5 || column < 0 || column > 5 ? -1 : row * 6 + column;
    }

    static Bumpward atMinute(int minute) {
        Bumpward b = new Bumpward();
        waitUntil(b, minute);
        return b;
    }

    static void waitUntil(Bumpward b, int minute) {
        for (int left = minute - b.house(0); left > 0; left -= 600) {
            b.pass(Math.min(left, 600));
        }
    }

    /** Some of everything: WALLS, DOORS, CARPET, a BARRED CELL, and two WALKERS that have acted. */
    static Bumpward busy() {
        Bumpward b = new Bumpward();
        b.edge(14, 0, 1, 0);
        b.edge(14, 1, 2, 5);
        b.edge(20, 1, 2, 16777215);
        b.cell(13, true, false);
        b.cell(27, true, true);
        b.walker(14, 1, 100, true);
        b.walker(20, 1, 100, false);
        b.feel(0, false);
        b.feel(1, false);
        b.forward(1, false);
        b.call();
        return b;
    }

    /**
     * WALKER 0 is SURE to be in CELL 2, its HOME, but really is in CELL 8, facing down in both. It has
     * the EDGES 2-1, 2-8, 8-7, 8-9, 8-14 as FREE and 2-3 as WALL; 8-9 is a WALL by now. 10 acts, which
     * are 10 MINUTES.
     */
    static Bumpward sureOfAnotherCell() {
        Bumpward b = new Bumpward();
        b.edge(2, 1, 1, 0);
        b.walker(2, 2, 500, true);
        b.feel(0, true);
        b.forward(0, true);
        b.tellPose(0);
        b.feel(0, true);
        turnAround(b, 0);
        b.forward(0, true);
        b.tellPose(0);
        turnAround(b, 0);
        b.forward(0, true);
        b.edge(8, 1, 1, 0);
        b.feel(0, true);
        return b;
    }

    /**
     * WALKER 0 is LOST and may be in all 144 POSES; really it is in CELL 15, facing right. It has the
     * EDGES 14-13, 14-15, 15-21 as FREE and 14-8, 14-20, 15-9 as WALL; 15-9 is FREE by now.
     */
    static Bumpward lost() {
        Bumpward b = new Bumpward();
        b.edge(15, 0, 1, 0);
        b.edge(14, 0, 1, 0);
        b.edge(14, 2, 1, 0);
        b.walker(15, 3, 500, true);
        b.feel(0, true);
        b.forward(0, true);
        b.tellPose(0);
        b.feel(0, true);
        turnAround(b, 0);
        b.forward(0, true);
        b.edge(15, 0, 0, 0);
        b.feel(0, true);
        return b;
    }

    /** A floor that is one path of 36 CELLS: the first row to the right, the second one to the left .. */
    static Bumpward path() {
        Bumpward b = new Bumpward();
        for (int cell = 0; cell < 30; cell++) {
            int opening = cell / 6 % 2 == 0 ? 5 : 0;
            if (cell % 6 != opening) {
                b.edge(cell, 2, 1, 0);
            }
        }
        return b;
    }

    /** The CELL that is so many steps along that path. */
    static int onPath(int steps) {
        int row = steps / 6;
        return row * 6 + (row % 2 == 0 ? steps % 6 : 5 - steps % 6);
    }

    /** WALKER 0 goes along the path, feels in each CELL, the last one too, and is told its POSE there. */
    static void goAlong(Bumpward b, int from, int to) {
        int by = from < to ? 1 : -1;
        for (int steps = from; steps != to; steps += by) {
            face(b, sideTo(onPath(steps), onPath(steps + by)));
            b.forward(0, true);
            b.tellPose(0);
            b.feel(0, true);
        }
    }

    private static void face(Bumpward b, int side) {
        for (int k = 0; k < 4 && b.ofWalker(0, 0) % 4 != side; k++) {
            b.turn(0, true, true);
        }
    }

    private static int sideTo(int cell, int next) {
        for (int side = 0; side < 4; side++) {
            if (beyond(cell, side) == next) {
                return side;
            }
        }
        throw new IllegalStateException("these CELLS are not next to each other");
    }
}
