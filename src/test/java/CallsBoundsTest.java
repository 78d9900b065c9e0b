/**
 * The boundary cases that the promises 1 to 30 name: of each number that a call takes the last ones
 * that are allowed and the first ones that are not, which exception comes first, and what is answered
 * at both ends. That a call that throws changes nothing is held against with each of them.
 */
public final class CallsBoundsTest {

    private static final Due.Maker BUSY = Setup::busy;

    private CallsBoundsTest() {
    }

    public static void main(String[] args) {
        promise1();
        promise2Arguments();
        promise2WhichKindItWas();
        promise3();
        promise4();
        promise5Arguments();
        promises6To9Refused();
        promises6To9Answers();
        promise10();
        promise11();
        promise12();
        promise13();
        promise14();
        promise15();
        promise16();
        promise17();
        promise18();
        promises19To22();
        promises23And24();
        promises25To27();
        promise28();
        promise29();
        promise30();
        noSuchWalker();
        theOneNamedFirst();
        Due.end("CallsBoundsTest");
    }

    private static void promise1() {
        Bumpward b = new Bumpward();
        Due.same("WALLS within, DOORS, WALKERS", b.house(2) + b.house(3) + b.house(7), 0);
        Due.thrown("without WALKERS", b, Due.INDEX, () -> b.tellPose(0));
    }

    // ---- the floor

    private static void promise2Arguments() {
        Due.bounds("edge: cell", BUSY, 0, 35, Due.INDEX, (b, v) -> b.edge(v, v < 30 ? 2 : 0, 1, 0));
        Due.bounds("edge: side", BUSY, 0, 3, Due.INDEX, (b, v) -> b.edge(14, v, 1, 0));
        Due.bounds("edge: kind", BUSY, 0, 2, Due.ARGUMENT, (b, v) -> b.edge(14, 2, v, 0));
        for (int kind = 0; kind <= 2; kind++) {
            int told = kind;
            Due.bounds("edge: hours of the kind " + kind, BUSY, 0, 16777215, Due.ARGUMENT,
                    (b, v) -> b.edge(14, 2, told, v));
        }
        int[][] outer = {{0, 0}, {5, 0}, {5, 1}, {35, 1}, {35, 2}, {30, 2}, {30, 3}, {0, 3}};
        for (int[] pair : outer) {
            Bumpward b = Setup.busy();
            Due.thrown("edge: outside", b, Due.ARGUMENT, () -> b.edge(pair[0], pair[1], 1, 0));
        }
    }

    /** Returns which kind it was. HOURS: that of a DOOR. */
    private static void promise2WhichKindItWas() {
        for (int was = 0; was <= 2; was++) {
            for (int kind = 0; kind <= 2; kind++) {
                Bumpward b = new Bumpward();
                Due.same("edge: was FREE", b.edge(35, 3, was, 16777215), 0);
                Due.same("edge: was " + was, b.edge(34, 1, kind, 8), was);
                Due.same("edge: is " + kind, b.ofEdge(35, 3, 0), kind);
                Due.same("edge: HOURS of " + kind, b.ofEdge(35, 3, 2), kind == 2 ? 8 : 0);
                Due.same("edge: WALLS", b.house(2), kind == 1 ? 1 : 0);
                Due.same("edge: DOORS", b.house(3), kind == 2 ? 1 : 0);
            }
        }
    }

    private static void promise3() {
        Due.bounds("lay: seed", BUSY, 0, 126, Due.ARGUMENT, (b, v) -> b.lay(v));
        for (int seed = 0; seed <= 126; seed++) {
            layOf(seed);
        }
        Bumpward doors = new Bumpward();
        for (int cell = 0; cell < 30; cell++) {
            doors.edge(cell, 2, 2, 16777215);
        }
        Due.same("lay: as without DOORS ahead", doors.lay(126), laid(126).house(2));
        Due.same("lay: DOORS are gone", doors.house(3), 0);
        Due.text("lay: the floor", Due.floorOf(doors), Due.floorOf(laid(126)));
    }

    private static Bumpward laid(int seed) {
        Bumpward b = new Bumpward();
        b.lay(seed);
        return b;
    }

    /** With one that is below 40 it is a WALL from now on, otherwise FREE. */
    private static void layOf(int seed) {
        Bumpward b = new Bumpward();
        int answer = b.lay(seed);
        int number = seed;
        int walls = 0;
        for (int cell = 0; cell < 36; cell++) {
            for (int side = 1; side <= 2; side++) {
                if (!Setup.isOuter(cell, side)) {
                    number = (29 * number + 13) % 127;
                    walls += number < 40 ? 1 : 0;
                    Due.same("lay(" + seed + "): number " + number, b.ofEdge(cell, side, 0), number < 40 ? 1 : 0);
                }
            }
        }
        Due.same("lay(" + seed + ")", answer, walls);
    }

    private static void promise4() {
        Due.bounds("cell", BUSY, 0, 35, Due.INDEX, (b, v) -> b.cell(v, true, true));
        Bumpward b = new Bumpward();
        Due.same("cell: none BARRED", b.cell(0, true, false), 0);
        for (int cell = 0; cell < 36; cell++) {
            Due.same("cell: one BARRED more", b.cell(cell, false, true), cell + 1);
        }
        Due.same("cell: all BARRED, told again", b.cell(35, false, true), 36);
        for (int cell = 0; cell < 36; cell++) {
            Due.same("cell: one BARRED less", b.cell(cell, true, false), 35 - cell);
        }
        Due.same("cell: all CARPET, none BARRED", b.house(5) * 100 + b.house(6), 3600);
    }

    // ---- walkers

    private static void promise5Arguments() {
        Due.bounds("walker: cell", BUSY, 0, 35, Due.INDEX, (b, v) -> b.walker(v, 0, 1, true));
        Due.bounds("walker: facing", BUSY, 0, 3, Due.ARGUMENT, (b, v) -> b.walker(0, v, 1, false));
        Due.bounds("walker: charge", BUSY, 1, 500, Due.ARGUMENT, (b, v) -> b.walker(0, 0, v, true));
        Bumpward three = Setup.busy();
        Due.same("walker: the third", three.walker(35, 3, 500, false), 2);
        Due.thrown("walker: there are 3", three, Due.STATE, () -> three.walker(35, 3, 500, false));
    }

    /** CHARGE is 0, it is not SAFE, the CELL ahead is BARRED, or MINUTE is 3000: one, or all of these. */
    private static void promises6To9Refused() {
        for (int act = 0; act < 5; act++) {
            int tried = act;
            Bumpward all = new Bumpward();
            all.cell(15, false, true);
            all.walker(14, 1, 1, true);
            all.walker(35, 3, 1, false);
            all.listen(0, true);
            Setup.waitUntil(all, 3000);
            Due.thrown("all at once: " + Setup.ACTS[act], all, Due.STATE, () -> Setup.act(all, 0, tried, false));
            Due.thrown("all, by force: " + Setup.ACTS[act], all, Due.STATE, () -> Setup.act(all, 0, tried, true));
            Due.thrown("no such WALKER: " + Setup.ACTS[act], all, Due.INDEX, () -> Setup.act(all, 2, tried, false));
        }
        Bumpward slip = new Bumpward();
        slip.cell(14, true, false);
        slip.walker(14, 1, 2, true);
        Due.thrown("what is refused draws nothing", slip, Due.STATE, () -> slip.forward(0, false));
        Due.same("nothing is DRAWN", slip.house(8), 0);
    }

    private static void promises6To9Answers() {
        Bumpward b = new Bumpward();
        b.walker(0, 0, 500, true);
        b.walker(0, 0, 500, false);
        Due.so("forward: BUMPS", b.forward(0, false));
        Due.same("turn: one POSE", b.turn(0, false, false), 1);
        Due.same("turn: all POSES", b.turn(1, false, false), 144);
        Due.same("feel: in the corner, facing left", b.feel(0, false), 6);
        b.edge(0, 2, 1, 0);
        Due.same("feel: all three", b.feel(0, false), 7);
        Due.same("listen: one other", b.listen(0, false), 1);
        b.walker(2, 0, 500, true);
        Due.same("listen: two others", b.listen(0, false), 2);
        Bumpward one = new Bumpward();
        one.walker(14, 0, 500, true);
        Due.same("listen: not itself", one.listen(0, false), 0);
        Due.same("feel: none", one.feel(0, false), 0);
        Due.so("forward: no BUMP", !one.forward(0, false));
        Due.same("turn: two POSES", one.turn(0, true, false), 2);
    }

    private static void promise10() {
        Due.bounds("charge: charge", BUSY, 1, 500, Due.ARGUMENT, (b, v) -> b.charge(0, v));
        Bumpward b = new Bumpward();
        b.walker(14, 1, 500, true);
        Due.same("charge: that before", b.charge(0, 1), 500);
        b.listen(0, true);
        Due.same("charge: none before", b.charge(0, 500), 0);
        b.forward(0, false);
        Due.thrown("charge: one off", b, Due.STATE, () -> b.charge(0, 500));
        b.tellPose(0);
        Setup.turnAround(b, 0);
        b.forward(0, false);
        Due.same("charge: back, though it is not SURE", b.charge(0, 500), 496);
        Due.same("charge: takes no MINUTE", b.house(0), 5);
        Bumpward wrong = Setup.sureOfAnotherCell();
        Due.thrown("charge: SURE of its HOME, not really in it", wrong, Due.STATE, () -> wrong.charge(0, 500));
    }

    private static void promise11() {
        Bumpward b = new Bumpward();
        b.walker(35, 3, 500, false);
        Due.same("tellPose: had all", b.tellPose(0), 144);
        Due.same("tellPose: had one", b.tellPose(0), 1);
        Due.so("tellPose: the last POSE", b.may(0, 143));
        Due.same("tellPose: takes no MINUTE, no CHARGE, no act", b.house(0) + b.ofWalker(0, 2) + b.ofWalker(0, 10),
                500);
        Bumpward wrong = Setup.sureOfAnotherCell();
        Due.same("tellPose: had another one", wrong.tellPose(0), 1);
        Due.so("tellPose: has its own", wrong.may(0, 8 * 4 + 2) && !wrong.may(0, 2 * 4 + 2));
        Due.same("tellPose: its MAP stays", wrong.ofWalker(0, 5) * 10 + wrong.ofWalker(0, 6), 51);
    }

    private static void promise12() {
        Bumpward b = new Bumpward();
        b.walker(14, 1, 500, true);
        b.walker(14, 1, 500, true);
        b.walker(15, 1, 500, true);
        for (int number : new int[] {-1, 3, Integer.MIN_VALUE, Integer.MAX_VALUE}) {
            Due.thrown("meet: no such one " + number, b, Due.INDEX, () -> b.meet(number, 0));
            Due.thrown("meet: no such two " + number, b, Due.INDEX, () -> b.meet(0, number));
        }
        for (int number = 0; number < 3; number++) {
            int same = number;
            Due.thrown("meet: both the same", b, Due.ARGUMENT, () -> b.meet(same, same));
        }
        Due.thrown("meet: one CELL off", b, Due.STATE, () -> b.meet(0, 2));
        Due.same("meet: in one CELL", b.meet(0, 1), 0);
        Bumpward all = Setup.path();
        all.walker(0, 1, 500, true);
        all.feel(0, true);
        Setup.goAlong(all, 0, 35);
        all.walker(30, 0, 500, true);
        Due.same("meet: all 60 become known", all.meet(0, 1), 60);
        Due.same("meet: all FREE and WALL", all.ofWalker(1, 5) * 100 + all.ofWalker(1, 6), 3525);
        Due.same("meet: none becomes known", all.meet(0, 1), 0);
        Due.same("meet: no DISPUTES", all.house(10), 0);
    }

    private static void promise13() {
        Due.bounds("pass: minutes", BUSY, 1, 600, Due.ARGUMENT, (b, v) -> b.pass(v));
        for (int minutes = 1; minutes <= 600; minutes += 599) {
            int last = minutes;
            Bumpward b = Setup.atMinute(3000 - last);
            Due.same("pass: up to 3000", b.pass(last), 3000);
            Bumpward late = Setup.atMinute(3001 - last);
            Due.thrown("pass: above 3000", late, Due.STATE, () -> late.pass(last));
        }
    }

    private static void promise14() {
        Bumpward b = new Bumpward();
        Due.same("call: the first", b.call(), 1);
        Due.same("call: the second", b.call(), 2);
        Due.thrown("refused otherwise", b, Due.ARGUMENT, () -> b.pass(0));
        Due.same("call: with this", b.call(), 3);
    }

    // ---- what is so

    private static void promise15() {
        Due.bounds("ofEdge: cell", BUSY, 0, 35, Due.INDEX, (b, v) -> b.ofEdge(v, 0, 0));
        Due.bounds("ofEdge: side", BUSY, 0, 3, Due.INDEX, (b, v) -> b.ofEdge(0, v, 0));
        Due.bounds("ofEdge: what", BUSY, 0, 2, Due.ARGUMENT, (b, v) -> b.ofEdge(0, 0, v));
        Bumpward b = new Bumpward();
        b.edge(35, 0, 2, 16777215);
        Due.same("ofEdge: each HOUR", b.ofEdge(29, 2, 2), 16777215);
        Due.same("ofEdge: OPEN", b.ofEdge(35, 0, 1), 0);
        b.edge(35, 0, 2, 0);
        Due.same("ofEdge: no HOUR", b.ofEdge(29, 2, 2), 0);
        Due.same("ofEdge: not OPEN", b.ofEdge(35, 0, 1), 1);
        b.edge(35, 0, 1, 16777215);
        Due.same("ofEdge: no HOURS of a WALL", b.ofEdge(29, 2, 2), 0);
        b.edge(35, 0, 0, 16777215);
        Due.same("ofEdge: no HOURS of a FREE one", b.ofEdge(29, 2, 2), 0);
    }

    private static void promise16() {
        Due.bounds("ofWalker: what", BUSY, 0, 12, Due.ARGUMENT, (b, v) -> b.ofWalker(0, v));
        Bumpward b = new Bumpward();
        b.walker(35, 3, 500, true);
        int[] due = {143, 35, 500, 1, 1, 0, 0, 0, 0, 0, 0, 0, 0};
        for (int what = 0; what <= 12; what++) {
            Due.same("ofWalker: " + what, b.ofWalker(0, what), due[what]);
        }
        Bumpward lost = Setup.lost();
        int[] then = {61, 15, 493, 144, 0, 3, 3, 5, 1, 1, 7, 0, 0};
        for (int what = 0; what <= 12; what++) {
            Due.same("ofWalker of a LOST one: " + what, lost.ofWalker(0, what), then[what]);
        }
    }

    private static void promise17() {
        Due.bounds("house: what", BUSY, 0, 11, Due.ARGUMENT, (b, v) -> b.house(v));
        Bumpward b = new Bumpward();
        for (int cell = 0; cell < 36; cell++) {
            b.cell(cell, true, true);
            if (cell < 30) {
                b.edge(cell, 2, 2, 16777215);
            }
            if (cell % 6 < 5) {
                b.edge(cell, 1, 2, cell == 0 ? 0 : 1);
            }
        }
        Due.same("house: all DOORS, no WALLS", b.house(3) * 100 + b.house(2), 6000);
        Due.same("house: all OPEN but one", b.house(4), 59);
        Due.same("house: all CARPET, all BARRED", b.house(5) * 100 + b.house(6), 3636);
        b.pass(60);
        Due.same("house: OPEN in the next HOUR", b.house(4), 30);
    }

    private static void promise18() {
        Due.bounds("row", BUSY, 0, 5, Due.INDEX, (b, v) -> b.row(v));
        for (int row = 0; row < 6; row++) {
            int first = row * 6;
            Bumpward b = new Bumpward();
            b.edge(first, 1, 1, 0);
            b.edge(first + 4, 1, 2, 16777215);
            b.edge(first + 2, 1, 2, 0);
            b.cell(first, true, true);
            b.cell(first + 5, true, false);
            b.cell(first + 3, false, true);
            Due.text("row " + row, b.row(row), "x|. ./x ./c");
            b.walker(first + 5, 0, 1, true);
            b.walker(first, 0, 1, true);
            b.walker(first, 0, 1, true);
            Due.text("row " + row + " with WALKERS", b.row(row), "1|. ./x ./0");
        }
    }

    // ---- what a walker knows

    private static void promises19To22() {
        Due.bounds("map: cell", BUSY, 0, 35, Due.INDEX, (b, v) -> b.map(0, v, 0));
        Due.bounds("map: side", BUSY, 0, 3, Due.INDEX, (b, v) -> b.map(0, 0, v));
        Due.bounds("may: pose", BUSY, 0, 143, Due.INDEX, (b, v) -> b.may(0, v));
        Due.bounds("where: facing", BUSY, 0, 3, Due.ARGUMENT, (b, v) -> b.where(0, v));
        Due.bounds("way: from", BUSY, 0, 35, Due.INDEX, (b, v) -> b.way(0, v, 0));
        Due.bounds("way: to", BUSY, 0, 35, Due.INDEX, (b, v) -> b.way(0, 0, v));
        Bumpward b = new Bumpward();
        b.walker(35, 3, 500, true);
        b.walker(35, 3, 500, false);
        Due.so("may: the last POSE alone", b.may(0, 143) && !b.may(0, 142) && !b.may(0, 139) && !b.may(0, 0));
        Due.so("may: the first and the last of all", b.may(1, 0) && b.may(1, 143));
        Due.same("where: the last CELL", b.where(0, 3), 34359738368L);
        Due.same("where: none", b.where(0, 0), 0);
        Due.same("where: all", b.where(1, 0), 68719476735L);
    }

    private static void promises23And24() {
        Due.bounds("safety: what", BUSY, 0, 3, Due.ARGUMENT, (b, v) -> b.safety(0, v));
        Bumpward b = new Bumpward();
        b.walker(35, 3, 500, true);
        b.walker(35, 3, 500, false);
        safetyIs("SURE, at HOME", b, 0, 0, 2, 35);
        safetyIs("not SURE", b, 1, -2, -2, -2);
        Due.so("doubt: one CELL", b.doubt(0) == 1 / 36.0);
        Due.so("doubt: all CELLS", b.doubt(1) == 1.0);
        b.forward(1, false);
        b.tellPose(1);
        safetyIs("SURE, without a RETURN", b, 1, -1, -1, 34);
        Bumpward same = new Bumpward();
        same.walker(0, 0, 500, false);
        same.edge(0, 1, 1, 0);
        same.edge(0, 2, 1, 0);
        same.feel(0, false);
        Due.so("doubt: with any FACING", same.ofWalker(0, 3) == 144 && same.doubt(0) == 1.0);
    }

    private static void safetyIs(String when, Bumpward b, int walker, int way, int cost, int goal) {
        Due.same("RETURN: " + when, b.safety(walker, 0), way);
        Due.same("COST: " + when, b.safety(walker, 1), cost);
        Due.same("SAFE: " + when, b.safety(walker, 2), 1);
        Due.same("GOAL: " + when, b.safety(walker, 3), goal);
    }

    // ---- what would be

    private static void promises25To27() {
        Due.bounds("worst: act", BUSY, 0, 3, Due.ARGUMENT, (b, v) -> b.worst(0, v));
        Due.bounds("wouldFeel: answer", BUSY, 0, 7, Due.ARGUMENT, (b, v) -> b.wouldFeel(0, v));
        Bumpward b = new Bumpward();
        b.walker(0, 0, 500, true);
        b.walker(0, 0, 500, false);
        for (int answer = 0; answer < 8; answer++) {
            Due.same("wouldFeel: in the corner, " + answer, b.wouldFeel(0, answer), (answer & 3) == 3 ? 1 : 0);
        }
        Due.same("wouldFeel: all WALL fits all", b.wouldFeel(1, 7), 144);
        Due.same("wouldFeel: all FREE fits those within", b.wouldFeel(1, 0), 80);
        Due.same("best: the smallest number", b.best(0) * 10 + b.best(1), 0);
        Due.same("nothing is put", b.ofWalker(0, 5) + b.ofWalker(0, 6), 0);
    }

    private static void promise28() {
        Due.bounds("wouldBe: cell", BUSY, 0, 35, Due.INDEX, (b, v) -> b.wouldBe(v, 0));
        Due.bounds("wouldBe: facing", BUSY, 0, 3, Due.ARGUMENT, (b, v) -> b.wouldBe(0, v));
        int[] corners = {0, 5, 30, 35};
        int[][] due = {{3, 1, 4, 6}, {6, 3, 1, 4}, {1, 4, 6, 3}, {4, 6, 3, 1}};
        for (int k = 0; k < corners.length; k++) {
            for (int facing = 0; facing < 4; facing++) {
                Due.same("wouldBe: in the corner " + corners[k] + ", " + facing,
                        new Bumpward().wouldBe(corners[k], facing), due[k][facing]);
            }
        }
    }

    /** BELIEF of 1 and of 144, CHARGE 0 and 500, the first and the last POSE, acts that are all BUMPS. */
    private static void promise29() {
        Bumpward b = new Bumpward();
        Due.so("isSound: without WALKERS", b.isSound());
        b.walker(0, 0, 500, true);
        b.walker(35, 3, 1, false);
        b.walker(0, 3, 500, true);
        Due.so("isSound: 1 and 144 POSES", b.isSound());
        b.listen(1, true);
        Due.so("isSound: CHARGE 0", b.isSound());
        b.forward(0, false);
        b.forward(2, false);
        Due.so("isSound: BUMPS alone", b.isSound() && b.ofWalker(0, 10) == b.ofWalker(0, 11));
        Due.so("isSound: LOST", Setup.lost().isSound());
        Due.so("isSound: SURE of another CELL", Setup.sureOfAnotherCell().isSound());
    }

    private static void promise30() {
        digestIs("without WALKERS", new Bumpward());
        digestIs("with two", Setup.busy());
        digestIs("LOST", Setup.lost());
        digestIs("SURE of another CELL", Setup.sureOfAnotherCell());
        digestIs("at MINUTE 3000", Setup.atMinute(3000));
        Bumpward three = new Bumpward();
        three.walker(35, 3, 500, false);
        three.walker(35, 3, 1, true);
        three.walker(0, 0, 500, false);
        three.forward(0, false);
        three.tellPose(0);
        Due.same("a RETURN of NONE, one of -2", three.safety(0, 0) * 10 + three.safety(2, 0), -12);
        digestIs("with three", three);
    }

    private static void digestIs(String when, Bumpward b) {
        long d = 58286;
        for (int what = 0; what < 12; what++) {
            d = d * 31 + b.house(what);
        }
        for (int cell = 0; cell < 36; cell++) {
            for (int k = 0; k < 4; k++) {
                d = d * 31 + b.ofEdge(cell, 1 + k / 2, k % 2);
            }
        }
        int walkers = b.house(7);
        for (int walker = 0; walker < walkers; walker++) {
            d = digestOf(b, walker, d);
        }
        Due.same("digest " + when, b.digest(), d * 31 + (b.isSound() ? 1 : 0));
    }

    private static long digestOf(Bumpward b, int walker, long before) {
        long d = before;
        for (int what = 0; what < 13; what++) {
            d = d * 31 + b.ofWalker(walker, what);
        }
        for (int facing = 0; facing < 4; facing++) {
            d = d * 31 + b.where(walker, facing);
        }
        for (int what = 0; what < 4; what++) {
            d = d * 31 + b.safety(walker, what);
        }
        for (int act = 0; act < 4; act++) {
            d = d * 31 + b.worst(walker, act);
        }
        d = d * 31 + b.best(walker);
        d = d * 31 + (long) (b.doubt(walker) * 64);
        for (int cell = 0; cell < 36; cell++) {
            d = (d * 31 + b.map(walker, cell, 1)) * 31 + b.map(walker, cell, 2);
        }
        return d;
    }

    // ---- all calls

    private static void noSuchWalker() {
        ofAWalker("forward", (b, v) -> b.forward(v, true));
        ofAWalker("turn", (b, v) -> b.turn(v, true, true));
        ofAWalker("feel", (b, v) -> b.feel(v, true));
        ofAWalker("listen", (b, v) -> b.listen(v, true));
        ofAWalker("charge", (b, v) -> b.charge(v, 5));
        ofAWalker("tellPose", (b, v) -> b.tellPose(v));
        ofAWalker("ofWalker", (b, v) -> b.ofWalker(v, 0));
        ofAWalker("map", (b, v) -> b.map(v, 0, 0));
        ofAWalker("may", (b, v) -> b.may(v, 0));
        ofAWalker("where", (b, v) -> b.where(v, 0));
        ofAWalker("way", (b, v) -> b.way(v, 0, 0));
        ofAWalker("safety", (b, v) -> b.safety(v, 0));
        ofAWalker("doubt", (b, v) -> b.doubt(v));
        ofAWalker("worst", (b, v) -> b.worst(v, 0));
        ofAWalker("best", (b, v) -> b.best(v));
        ofAWalker("wouldFeel", (b, v) -> b.wouldFeel(v, 0));
    }

    /** Of one, two and three WALKERS the first and the last, and those that are none; of none each. */
    private static void ofAWalker(String call, Due.CallWith made) {
        for (int walkers = 1; walkers <= 3; walkers++) {
            int number = walkers;
            Due.bounds(call + " with " + walkers + " WALKERS, of", () -> with(number), 0, walkers - 1, Due.INDEX, made);
        }
        Bumpward none = new Bumpward();
        for (int number = -1; number <= 3; number++) {
            int tried = number;
            Due.thrown(call + " without WALKERS", none, Due.INDEX, () -> made.make(none, tried));
        }
    }

    private static Bumpward with(int walkers) {
        Bumpward b = new Bumpward();
        for (int number = 0; number < walkers; number++) {
            b.walker(14, 1, 100, true);
        }
        return b;
    }

    /** If several exceptions apply, the one that is named first is thrown. */
    private static void theOneNamedFirst() {
        Bumpward b = with(3);
        b.forward(0, false);
        Setup.waitUntil(b, 3000);
        Due.thrown("edge: all three", b, Due.INDEX, () -> b.edge(36, 4, 3, -1));
        Due.thrown("edge: side and kind", b, Due.INDEX, () -> b.edge(0, 4, 3, -1));
        Due.thrown("edge: outside, kind and hours", b, Due.ARGUMENT, () -> b.edge(0, 0, 3, -1));
        Due.thrown("walker: all three", b, Due.INDEX, () -> b.walker(-1, -1, 0, true));
        Due.thrown("walker: facing, and there are 3", b, Due.ARGUMENT, () -> b.walker(0, -1, 1, true));
        Due.thrown("walker: charge, and there are 3", b, Due.ARGUMENT, () -> b.walker(0, 0, 501, true));
        Due.thrown("charge: all three", b, Due.INDEX, () -> b.charge(3, 0));
        Due.thrown("charge: 0, and not in its HOME", b, Due.ARGUMENT, () -> b.charge(0, 0));
        Due.thrown("charge: 501, and not in its HOME", b, Due.ARGUMENT, () -> b.charge(0, 501));
        Due.thrown("meet: none, both the same", b, Due.INDEX, () -> b.meet(-1, -1));
        Due.thrown("meet: one of both, not SURE", b, Due.INDEX, () -> b.meet(0, 3));
        Due.thrown("meet: the same, not SURE", b, Due.ARGUMENT, () -> b.meet(0, 0));
        Due.thrown("pass: 0 at MINUTE 3000", b, Due.ARGUMENT, () -> b.pass(0));
        Due.thrown("pass: 601 at MINUTE 3000", b, Due.ARGUMENT, () -> b.pass(601));
        Bumpward other = with(3);
        Due.thrown("ofEdge: cell and what", other, Due.INDEX, () -> other.ofEdge(36, 0, 3));
        Due.thrown("ofEdge: side and what", other, Due.INDEX, () -> other.ofEdge(0, -1, -1));
        Due.thrown("ofWalker: both", other, Due.INDEX, () -> other.ofWalker(3, 13));
        Due.thrown("where: both", other, Due.INDEX, () -> other.where(3, 4));
        Due.thrown("safety: both", other, Due.INDEX, () -> other.safety(3, 4));
        Due.thrown("worst: both", other, Due.INDEX, () -> other.worst(3, 4));
        Due.thrown("wouldFeel: both", other, Due.INDEX, () -> other.wouldFeel(3, 8));
        Due.thrown("wouldBe: both", other, Due.INDEX, () -> other.wouldBe(36, 4));
        for (int act = 0; act < 5; act++) {
            int tried = act;
            Due.thrown("no such WALKER at 3000: " + Setup.ACTS[act], b, Due.INDEX, () -> Setup.act(b, 3, tried, false));
        }
    }
}
