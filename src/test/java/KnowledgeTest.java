/** Promises 19 to 27: what a WALKER knows, and what would be. */
public final class KnowledgeTest {

    private static final long ALL = (1L << 36) - 1;

    private KnowledgeTest() {
    }

    public static void main(String[] args) {
        promise19Map();
        promise20May();
        promise21Where();
        promise22Way();
        promise22WayAllAround();
        promise23Safety();
        promise23Goal();
        promise24Doubt();
        promise25Worst();
        promise26Best();
        promise27WouldFeel();
        Due.end("KnowledgeTest");
    }

    private static void promise19Map() {
        Bumpward b = new Bumpward();
        b.walker(14, 1, 100, true);
        for (int cell = 0; cell < 36; cell++) {
            Due.same("map: above " + cell, b.map(0, cell, 0), cell < 6 ? 2 : 0);
            Due.same("map: right of " + cell, b.map(0, cell, 1), cell % 6 == 5 ? 2 : 0);
            Due.same("map: below " + cell, b.map(0, cell, 2), cell >= 30 ? 2 : 0);
            Due.same("map: left of " + cell, b.map(0, cell, 3), cell % 6 == 0 ? 2 : 0);
        }
        b.edge(14, 0, 1, 0);
        b.feel(0, false);
        Due.same("map: WALL", b.map(0, 14, 0), 2);
        Due.same("map: WALL by its other name", b.map(0, 8, 2), 2);
        Due.same("map: FREE", b.map(0, 14, 1), 1);
        Due.same("map: FREE by its other name", b.map(0, 15, 3), 1);
        Due.same("map: UNKNOWN", b.map(0, 14, 3), 0);
        Due.thrown("map: no such WALKER", b, Due.INDEX, () -> b.map(1, 0, 0));
        Due.thrown("map: WALKER -1", b, Due.INDEX, () -> b.map(-1, 0, 0));
        Due.thrown("map: cell -1", b, Due.INDEX, () -> b.map(0, -1, 0));
        Due.thrown("map: cell 36", b, Due.INDEX, () -> b.map(0, 36, 0));
        Due.thrown("map: side -1", b, Due.INDEX, () -> b.map(0, 0, -1));
        Due.thrown("map: side 4", b, Due.INDEX, () -> b.map(0, 0, 4));
    }

    private static void promise20May() {
        Bumpward b = new Bumpward();
        b.walker(14, 1, 100, true);
        b.walker(14, 1, 100, false);
        for (int pose = 0; pose < 144; pose++) {
            Due.so("may: told, " + pose, b.may(0, pose) == (pose == 57));
            Due.so("may: not told, " + pose, b.may(1, pose));
        }
        Due.thrown("may: no such WALKER", b, Due.INDEX, () -> b.may(2, 0));
        Due.thrown("may: WALKER -1", b, Due.INDEX, () -> b.may(-1, 0));
        Due.thrown("may: pose -1", b, Due.INDEX, () -> b.may(0, -1));
        Due.thrown("may: pose 144", b, Due.INDEX, () -> b.may(0, 144));
    }

    private static void promise21Where() {
        Bumpward b = new Bumpward();
        b.walker(35, 3, 100, true);
        b.walker(14, 1, 100, false);
        for (int facing = 0; facing < 4; facing++) {
            Due.same("where: told", b.where(0, facing), facing == 3 ? 1L << 35 : 0L);
            Due.same("where: not told", b.where(1, facing), ALL);
        }
        Due.thrown("where: no such WALKER, ahead of facing", b, Due.INDEX, () -> b.where(2, 4));
        Due.thrown("where: WALKER -1", b, Due.INDEX, () -> b.where(-1, 0));
        Due.thrown("where: facing -1", b, Due.ARGUMENT, () -> b.where(0, -1));
        Due.thrown("where: facing 4", b, Due.ARGUMENT, () -> b.where(0, 4));
    }

    /** Feels all that is around the CELL in which the WALKER is told to be. */
    private static void feelAround(Bumpward b, int walker) {
        b.tellPose(walker);
        b.feel(walker, true);
        b.turn(walker, true, true);
        b.feel(walker, true);
        b.turn(walker, true, true);
        b.feel(walker, true);
    }

    private static void goTo(Bumpward b, int walker, int facing) {
        for (int k = 0; k < 4 && b.ofWalker(walker, 0) % 4 != facing; k++) {
            b.turn(walker, true, true);
        }
        b.forward(walker, true);
        b.tellPose(walker);
    }

    private static void promise22Way() {
        Bumpward b = new Bumpward();
        b.walker(14, 0, 500, true);
        Due.same("way: to itself", b.way(0, 33, 33), 0);
        Due.same("way: nothing known", b.way(0, 14, 15), -1);
        feelAround(b, 0);
        Due.same("way: one", b.way(0, 14, 15), 1);
        Due.same("way: back", b.way(0, 15, 14), 1);
        Due.same("way: two", b.way(0, 8, 20), 2);
        Due.same("way: UNKNOWN is none", b.way(0, 8, 9), -1);
        goTo(b, 0, 1);
        feelAround(b, 0);
        Due.same("way: three", b.way(0, 8, 16), 3);
        Due.same("way: around no corner", b.way(0, 8, 9), 3);
        b.edge(15, 3, 1, 0);
        Due.same("way: by the MAP, not by the floor", b.way(0, 14, 15), 1);
        goTo(b, 0, 3);
        Due.same("way: WALL by now", b.way(0, 14, 15), -1);
        Due.thrown("way: no such WALKER", b, Due.INDEX, () -> b.way(1, 0, 0));
        Due.thrown("way: WALKER -1", b, Due.INDEX, () -> b.way(-1, 0, 0));
        Due.thrown("way: from -1", b, Due.INDEX, () -> b.way(0, -1, 0));
        Due.thrown("way: from 36", b, Due.INDEX, () -> b.way(0, 36, 0));
        Due.thrown("way: to -1", b, Due.INDEX, () -> b.way(0, 0, -1));
        Due.thrown("way: to 36", b, Due.INDEX, () -> b.way(0, 0, 36));
    }

    /** One path through all CELLS, row by row there and back: the longest WAY of all. */
    private static void promise22WayAllAround() {
        Bumpward b = new Bumpward();
        b.walker(0, 1, 500, true);
        for (int row = 0; row < 6; row++) {
            for (int k = 0; k < 5; k++) {
                goTo(b, 0, row % 2 == 0 ? 1 : 3);
            }
            if (row < 5) {
                goTo(b, 0, 2);
            }
        }
        Due.same("way: its end", b.ofWalker(0, 0) / 4, 30);
        Due.same("way: the longest", b.way(0, 0, 30), 35);
        Due.same("way: and back", b.way(0, 30, 0), 35);
        Due.same("way: neighbours", b.way(0, 0, 6), 11);
        Due.same("way: RETURN", b.safety(0, 0), 35);
        Due.same("way: COST", b.safety(0, 1), 72);
    }

    private static void promise23Safety() {
        Bumpward b = new Bumpward();
        b.walker(14, 1, 100, true);
        safetyIs(b, 0, 0, 2, 1, 14);
        b.forward(0, false);
        safetyIs(b, 0, -2, -2, 1, -2);
        b.tellPose(0);
        safetyIs(b, 0, 1, 4, 1, 15);
        b.walker(20, 1, 20, false);
        safetyIs(b, 1, -2, -2, 0, -2);
        b.charge(1, 21);
        safetyIs(b, 1, -2, -2, 1, -2);
        b.edge(15, 3, 1, 0);
        b.turn(0, true, false);
        b.turn(0, true, false);
        b.forward(0, false);
        safetyIs(b, 0, -1, -1, 1, 15);
        Bumpward near = new Bumpward();
        near.walker(14, 1, 7, true);
        near.forward(0, false);
        near.tellPose(0);
        near.turn(0, true, false);
        safetyIs(near, 0, 1, 4, 1, 15);
        near.turn(0, true, false);
        safetyIs(near, 0, 1, 4, 0, 15);
        Bumpward none = new Bumpward();
        none.walker(14, 1, 1, true);
        none.turn(0, true, true);
        safetyIs(none, 0, 0, 2, 0, 14);
        Due.thrown("safety: no such WALKER, ahead of what", b, Due.INDEX, () -> b.safety(2, 4));
        Due.thrown("safety: WALKER -1", b, Due.INDEX, () -> b.safety(-1, 0));
        Due.thrown("safety: what -1", b, Due.ARGUMENT, () -> b.safety(0, -1));
        Due.thrown("safety: what 4", b, Due.ARGUMENT, () -> b.safety(0, 4));
    }

    private static void safetyIs(Bumpward b, int walker, int way, int cost, int isSafe, int goal) {
        Due.same("safety: RETURN", b.safety(walker, 0), way);
        Due.same("safety: COST", b.safety(walker, 1), cost);
        Due.same("safety: SAFE", b.safety(walker, 2), isSafe);
        Due.same("safety: GOAL", b.safety(walker, 3), goal);
    }

    private static void promise23Goal() {
        Bumpward b = new Bumpward();
        b.walker(14, 0, 100, true);
        feelAround(b, 0);
        Due.same("goal: of four the smallest CELL", b.safety(0, 3), 8);
        goTo(b, 0, 0);
        feelAround(b, 0);
        Due.same("goal: around 8", b.safety(0, 3), 2);
        goTo(b, 0, 2);
        Due.same("goal: nearer ones first", b.safety(0, 3), 13);
        Bumpward above = new Bumpward();
        above.walker(14, 2, 100, true);
        above.feel(0, false);
        Due.same("goal: only the EDGE above is UNKNOWN", above.safety(0, 3), 14);
        above.walker(0, 2, 100, true);
        Due.same("goal: the first CELL", above.safety(1, 3), 0);
        Bumpward shut = new Bumpward();
        for (int side = 0; side < 4; side++) {
            shut.edge(14, side, 1, 0);
        }
        shut.walker(14, 0, 100, true);
        shut.feel(0, false);
        Due.same("goal: itself", shut.safety(0, 3), 14);
        feelAround(shut, 0);
        Due.same("goal: none that has a WAY", shut.safety(0, 3), -1);
    }

    private static void promise24Doubt() {
        Bumpward b = new Bumpward();
        b.walker(14, 1, 100, false);
        b.walker(14, 1, 100, true);
        isDoubt(b, 0, 1.0);
        isDoubt(b, 1, 1 / 36.0);
        b.forward(1, false);
        isDoubt(b, 1, 2 / 36.0);
        b.edge(14, 0, 1, 0);
        b.edge(14, 1, 1, 0);
        b.edge(14, 2, 1, 0);
        b.feel(0, false);
        isDoubt(b, 0, 1.0);
        Bumpward corner = new Bumpward();
        corner.walker(14, 0, 100, true);
        feelAround(corner, 0);
        isDoubt(corner, 0, 1 / 36.0);
        Due.thrown("doubt: no such WALKER", b, Due.INDEX, () -> b.doubt(2));
        Due.thrown("doubt: WALKER -1", b, Due.INDEX, () -> b.doubt(-1));
        Bumpward inner = new Bumpward();
        inner.walker(14, 1, 100, false);
        inner.feel(0, false);
        isDoubt(inner, 0, 32 / 36.0);
    }

    private static void isDoubt(Bumpward b, int walker, double due) {
        Due.same("doubt of " + walker, Double.doubleToLongBits(b.doubt(walker)), Double.doubleToLongBits(due));
    }

    private static void promise25Worst() {
        Bumpward b = new Bumpward();
        b.walker(14, 1, 100, true);
        worstIs(b, 0, 2, 1, 1, 1);
        b.edge(14, 1, 1, 0);
        b.feel(0, false);
        worstIs(b, 0, 1, 1, 1, 1);
        b.edge(14, 1, 0, 0);
        b.feel(0, false);
        worstIs(b, 0, 2, 1, 1, 1);
        Due.same("worst: nothing is put", b.ofWalker(0, 5), 3);
        b.walker(20, 0, 100, false);
        worstIs(b, 1, 144, 144, 144, 144);
        b.feel(1, false);
        worstIs(b, 1, 96, 80, 80, 80);
        Bumpward several = new Bumpward();
        several.walker(14, 1, 100, true);
        several.feel(0, true);
        several.forward(0, true);
        worstIs(several, 0, 3, 2, 2, 2);
        Due.thrown("worst: no such WALKER, ahead of act", b, Due.INDEX, () -> b.worst(2, 4));
        Due.thrown("worst: WALKER -1", b, Due.INDEX, () -> b.worst(-1, 0));
        Due.thrown("worst: act -1", b, Due.ARGUMENT, () -> b.worst(0, -1));
        Due.thrown("worst: act 4", b, Due.ARGUMENT, () -> b.worst(0, 4));
    }

    private static void worstIs(Bumpward b, int walker, int forward, int left, int right, int feel) {
        Due.same("worst: FORWARD", b.worst(walker, 0), forward);
        Due.same("worst: LEFT", b.worst(walker, 1), left);
        Due.same("worst: RIGHT", b.worst(walker, 2), right);
        Due.same("worst: FEEL", b.worst(walker, 3), feel);
    }

    private static void promise26Best() {
        Bumpward b = new Bumpward();
        b.walker(14, 1, 100, true);
        Due.same("best: to turn", b.best(0), 1);
        b.walker(14, 1, 100, false);
        Due.same("best: of several the smallest", b.best(1), 0);
        b.edge(14, 1, 1, 0);
        b.feel(0, false);
        Due.same("best: FORWARD changes nothing there", b.best(0), 0);
        Bumpward feeling = new Bumpward();
        feeling.walker(14, 1, 100, true);
        feeling.edge(14, 0, 1, 0);
        feeling.feel(0, true);
        goTo(feeling, 0, 1);
        feeling.feel(0, true);
        feeling.turn(0, true, true);
        feeling.turn(0, true, true);
        feeling.forward(0, true);
        Due.same("best: FEEL tells both POSES apart", feeling.best(0), 3);
        Due.same("best: WORST of it", feeling.worst(0, 3), 1);
        Due.thrown("best: no such WALKER", b, Due.INDEX, () -> b.best(2));
        Due.thrown("best: WALKER -1", b, Due.INDEX, () -> b.best(-1));
    }

    private static void promise27WouldFeel() {
        Bumpward b = new Bumpward();
        b.walker(14, 1, 100, false);
        int[] due = {80, 100, 96, 120, 100, 120, 120, 144};
        for (int answer = 0; answer < 8; answer++) {
            Due.same("wouldFeel: all, " + answer, b.wouldFeel(0, answer), due[answer]);
        }
        b.edge(14, 1, 1, 0);
        b.walker(14, 1, 100, true);
        b.feel(1, false);
        for (int answer = 0; answer < 8; answer++) {
            Due.same("wouldFeel: SURE, " + answer, b.wouldFeel(1, answer), answer == 2 ? 1 : 0);
        }
        b.turn(1, true, false);
        for (int answer = 0; answer < 8; answer++) {
            Due.same("wouldFeel: right is UNKNOWN, " + answer, b.wouldFeel(1, answer),
                    (answer & 3) == 1 ? 1 : 0);
        }
        Due.same("wouldFeel: nothing is put", b.ofWalker(1, 5) + b.ofWalker(1, 6), 3);
        Due.thrown("wouldFeel: no such WALKER, ahead of answer", b, Due.INDEX, () -> b.wouldFeel(2, 8));
        Due.thrown("wouldFeel: WALKER -1", b, Due.INDEX, () -> b.wouldFeel(-1, 0));
        Due.thrown("wouldFeel: answer -1", b, Due.ARGUMENT, () -> b.wouldFeel(0, -1));
        Due.thrown("wouldFeel: answer 8", b, Due.ARGUMENT, () -> b.wouldFeel(0, 8));
    }
}
