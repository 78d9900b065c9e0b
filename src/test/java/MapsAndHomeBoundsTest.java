/**
 * The boundary cases that the terms 3 to 5 name: maps, home and what is safe, meeting, searching,
 * scores. Each test quotes its sentence.
 */
public final class MapsAndHomeBoundsTest {

    private static final long ALL = (1L << 36) - 1;

    private MapsAndHomeBoundsTest() {
    }

    public static void main(String[] args) {
        mapAtFirst();
        aDoorLooksLikeAWall();
        carpetsAreNotKnown();
        beliefAsSetDown();
        bumpLeavesWallAndUnknown();
        noBumpLeavesBothOfFreeAndUnknown();
        feelLeavesWhatFits();
        listenAndTurnKeepAll();
        sureIsOnePose();
        sureRightOrNot();
        putThoughTheMapHadItAnotherWay();
        lostOnlyIfNoneIsLeft();
        lostAtTheOutside();
        whatIsPutStays();
        wayNoneToLongest();
        costAndSafeByTheWay();
        safeIfNotSure();
        safeWithoutReturn();
        barredAheadOfASureOne();
        barredIsByTheCellOfWhichItIsSure();
        barredHindersNothingElse();
        meetOnlySureOnesInOneCell();
        disputesAtEachMeeting();
        goalOfSeveralTheSmallest();
        goalFarthestAndNone();
        worstCountsNoEmptyAnswer();
        tellMostOfSeveralTheSmallest();
        rightAndWrongOfSixty();
        thePorterRefusesEachOne();
        Due.end("MapsAndHomeBoundsTest");
    }

    private static int known(Bumpward b) {
        return b.ofWalker(0, 5) * 100 + b.ofWalker(0, 6);
    }

    // ---- 3. maps

    /** For each EDGE within the floor UNKNOWN (at first); EDGES to the outside are known as WALLS. */
    private static void mapAtFirst() {
        Bumpward b = new Bumpward();
        b.lay(7);
        b.walker(14, 1, 100, true);
        for (int cell = 0; cell < 36; cell++) {
            for (int side = 0; side < 4; side++) {
                Due.same("at first: map of " + cell + ", " + side, b.map(0, cell, side),
                        Setup.isOuter(cell, side) ? 2 : 0);
            }
        }
        Due.same("at first: FREE and WALL within the floor", known(b), 0);
        Due.same("at first: RIGHT and WRONG", b.ofWalker(0, 7) + b.ofWalker(0, 8), 0);
    }

    /** FREE, or WALL; a DOOR can not be told from a WALL. */
    private static void aDoorLooksLikeAWall() {
        Bumpward b = Setup.atMinute(58);
        b.edge(14, 1, 2, 1);
        b.walker(14, 1, 100, true);
        b.feel(0, false);
        Due.same("an OPEN DOOR felt", b.map(0, 14, 1), 1);
        b.feel(0, false);
        Due.same("an OPEN DOOR felt at MINUTE 59", b.map(0, 14, 1), 1);
        b.feel(0, false);
        Due.same("a DOOR felt that is not OPEN", b.map(0, 15, 3), 2);
        Bumpward shut = new Bumpward();
        shut.edge(14, 1, 2, 0);
        shut.walker(14, 1, 100, true);
        Due.so("a DOOR bumped into", shut.forward(0, false));
        Due.same("a DOOR bumped into is WALL", shut.map(0, 14, 1), 2);
        Bumpward open = new Bumpward();
        open.edge(14, 1, 2, 1);
        open.walker(14, 1, 100, true);
        Due.so("a DOOR gone through", !open.forward(0, false));
        Due.same("a DOOR gone through is FREE", open.map(0, 14, 1), 1);
    }

    /** Of CARPETS it knows nothing: it takes each CELL as one that may be one. */
    private static void carpetsAreNotKnown() {
        for (int k = 0; k < 2; k++) {
            Bumpward b = new Bumpward();
            b.cell(14, k == 1, false);
            b.walker(14, 1, 100, true);
            b.forward(0, false);
            Due.same("it went", b.ofWalker(0, 0), 15 * 4 + 1);
            Due.same("it may have SLIPPED, CARPET or not", b.where(0, 1), 1L << 14 | 1L << 15);
        }
    }

    /** As it is set down it is told either its POSE (one), or nothing (all 144). */
    private static void beliefAsSetDown() {
        Bumpward b = new Bumpward();
        b.walker(0, 0, 100, true);
        b.walker(35, 3, 100, true);
        b.walker(0, 0, 100, false);
        Due.same("told: one each", b.ofWalker(0, 3) * 10 + b.ofWalker(1, 3), 11);
        Due.same("told: the first and the last", b.where(0, 0) + b.where(1, 3), 1L + (1L << 35));
        Due.same("not told: all", b.ofWalker(2, 3), 144);
        Due.same("SURE or not", b.ofWalker(0, 4) * 100 + b.ofWalker(1, 4) * 10 + b.ofWalker(2, 4), 110);
        for (int facing = 0; facing < 4; facing++) {
            Due.same("not told: all of " + facing, b.where(2, facing), ALL);
        }
    }

    /** FORWARD with a BUMP: those POSES stay whose EDGE ahead is WALL or UNKNOWN. */
    private static void bumpLeavesWallAndUnknown() {
        Bumpward b = Setup.lost();
        b.edge(15, 1, 1, 0);
        Due.so("a BUMP", b.forward(0, true));
        staysBut("a BUMP", b, new int[] {14 * 4 + 1, 15 * 4 + 3, 14 * 4 + 3, 13 * 4 + 1, 15 * 4 + 2, 21 * 4});
        Due.same("a BUMP puts nothing, as it is not SURE", known(b), 303);
    }

    /** All POSES are in the BELIEF but those told. */
    private static void staysBut(String what, Bumpward b, int[] gone) {
        long[] due = {ALL, ALL, ALL, ALL};
        for (int pose : gone) {
            due[pose % 4] &= ~(1L << pose / 4);
        }
        for (int facing = 0; facing < 4; facing++) {
            Due.same(what + ": those that face " + facing, b.where(0, facing), due[facing]);
        }
        Due.same(what + ": how many", b.ofWalker(0, 3), 144 - gone.length);
    }

    /** Without a BUMP: of each POSE whose EDGE ahead is FREE or UNKNOWN, both itself and the one ahead. */
    private static void noBumpLeavesBothOfFreeAndUnknown() {
        Bumpward b = Setup.lost();
        Due.so("no BUMP", !b.forward(0, true));
        staysBut("no BUMP", b, new int[] {14 * 4, 14 * 4 + 2});
        Due.same("no BUMP puts nothing, as it is not SURE", known(b), 303);
        Bumpward known = new Bumpward();
        known.walker(14, 1, 100, true);
        known.forward(0, false);
        known.tellPose(0);
        Setup.turnAround(known, 0);
        known.forward(0, false);
        Due.same("of one whose EDGE ahead is FREE, two", known.where(0, 3), 1L << 14 | 1L << 15);
    }

    /** FEEL: those stay for which each of the three EDGES is as told, or UNKNOWN (outside: WALL). */
    private static void feelLeavesWhatFits() {
        Bumpward b = Setup.lost();
        Due.same("none around", b.wouldBe(15, 1), 0);
        Due.same("it would be 64", b.wouldFeel(0, 0), 64);
        b.feel(0, true);
        Due.same("80 that are not at the outside, less 16 at a WALL", b.ofWalker(0, 3), 64);
        Due.same("a FEEL puts nothing, as it is not SURE", known(b), 303);
        Bumpward all = Setup.lost();
        all.edge(15, 0, 1, 0);
        all.edge(15, 1, 1, 0);
        all.edge(15, 2, 1, 0);
        all.feel(0, true);
        Due.same("all but 14 at a FREE one", all.ofWalker(0, 3), 130);
        Bumpward corner = new Bumpward();
        corner.edge(0, 2, 1, 0);
        corner.walker(0, 3, 100, false);
        Due.same("in a corner, facing out", corner.feel(0, false), 7);
        Due.same("UNKNOWN fits each answer", corner.ofWalker(0, 3), 144);
    }

    /** LISTEN changes nothing. LEFT, RIGHT: each POSE turned. */
    private static void listenAndTurnKeepAll() {
        Bumpward b = Setup.lost();
        b.listen(0, true);
        Due.same("LISTEN: all", b.ofWalker(0, 3), 144);
        Due.same("LEFT: all", b.turn(0, false, true), 144);
        Due.same("RIGHT: all", b.turn(0, true, true), 144);
        Bumpward two = new Bumpward();
        two.walker(14, 0, 100, true);
        two.forward(0, false);
        two.listen(0, false);
        Due.same("LISTEN: both", two.where(0, 0), 1L << 14 | 1L << 8);
        Due.same("LEFT: both", two.turn(0, false, false), 2);
        Due.same("LEFT: both face left", two.where(0, 3), 1L << 14 | 1L << 8);
        two.turn(0, true, false);
        Due.same("RIGHT: both face up", two.where(0, 0), 1L << 14 | 1L << 8);
    }

    /** If BELIEF is one POSE ahead of the act, and what it is told proves an EDGE, that is put. */
    private static void sureIsOnePose() {
        Bumpward one = new Bumpward();
        one.edge(14, 1, 1, 0);
        one.walker(14, 1, 100, true);
        one.forward(0, false);
        Due.same("one POSE: a BUMP is put as WALL", known(one), 1);
        one.feel(0, false);
        Due.same("one POSE: a FEEL puts three", known(one), 201);
        Bumpward two = new Bumpward();
        two.walker(14, 1, 100, true);
        two.forward(0, false);
        Due.same("one POSE: no BUMP is put as FREE", known(two), 100);
        Due.same("two POSES then", two.ofWalker(0, 3) * 10 + two.ofWalker(0, 4), 20);
        two.feel(0, false);
        Due.same("two POSES: a FEEL puts none", known(two), 100);
        two.edge(15, 1, 1, 0);
        two.forward(0, false);
        Due.same("two POSES: a BUMP puts none", known(two), 100);
        Due.same("SURE by that BUMP, behind it", two.ofWalker(0, 4), 1);
        two.forward(0, false);
        Due.same("one POSE again: put", two.map(0, 15, 1), 2);
        Bumpward told = new Bumpward();
        told.walker(14, 1, 100, false);
        told.forward(0, false);
        told.feel(0, false);
        Due.same("many POSES: none put", known(told), 0);
        told.tellPose(0);
        told.feel(0, false);
        Due.same("told its POSE: three put", known(told), 300);
    }

    /** It is SURE of that, right or not. */
    private static void sureRightOrNot() {
        Bumpward b = Setup.sureOfAnotherCell();
        Due.same("SURE", b.ofWalker(0, 4), 1);
        Due.same("SURE of CELL 2", b.where(0, 2), 1L << 2);
        Due.same("it is in CELL 8", b.ofWalker(0, 0), 8 * 4 + 2);
        Due.same("what it knows", known(b), 501);
        Due.same("RIGHT and WRONG", b.ofWalker(0, 7) * 10 + b.ofWalker(0, 8), 51);
        Due.same("it felt what it was not SURE of: not put", b.map(0, 8, 1), 1);
        b.edge(8, 2, 1, 0);
        Due.so("a BUMP below CELL 8", b.forward(0, true));
        Due.same("is put below CELL 2", b.map(0, 2, 2), 2);
        Due.same("not below CELL 8", b.map(0, 8, 2), 1);
        Due.same("SURE still", b.where(0, 2), 1L << 2);
        Due.same("never LOST", b.ofWalker(0, 9), 0);
    }

    /** (Also if the MAP had it another way.) */
    private static void putThoughTheMapHadItAnotherWay() {
        Bumpward b = new Bumpward();
        b.edge(14, 1, 1, 0);
        b.walker(14, 1, 100, true);
        b.feel(0, false);
        b.edge(14, 1, 0, 0);
        b.edge(14, 0, 1, 0);
        b.feel(0, false);
        Due.same("felt another way: WALL to FREE", b.map(0, 14, 1), 1);
        Due.same("felt another way: FREE to WALL", b.map(0, 14, 0), 2);
        Due.same("it stays SURE", b.ofWalker(0, 3), 1);
        b.edge(14, 1, 1, 0);
        b.forward(0, false);
        Due.same("bumped into: FREE to WALL", b.map(0, 15, 3), 2);
        Due.same("it stays SURE behind the BUMP", b.ofWalker(0, 3), 1);
        b.edge(14, 1, 0, 0);
        b.forward(0, false);
        Due.same("gone through: WALL to FREE", b.map(0, 15, 3), 1);
        Due.same("two POSES by the MAP as it is then", b.ofWalker(0, 3), 2);
        Due.same("never LOST by that", b.ofWalker(0, 9), 0);
    }

    /** Should BELIEF be empty by that, it is all 144 POSES anew, and the WALKER is LOST (counted). */
    private static void lostOnlyIfNoneIsLeft() {
        Bumpward one = Setup.sureOfAnotherCell();
        Due.same("one POSE left by the FEEL: not LOST", one.ofWalker(0, 3) * 10 + one.ofWalker(0, 9), 10);
        Bumpward none = Setup.lost();
        Due.same("none left by the FEEL: LOST", none.ofWalker(0, 9), 1);
        Due.same("none left by the FEEL: all anew", none.ofWalker(0, 3), 144);
        Due.same("none left: it is an act as any other", none.ofWalker(0, 10) * 1000 + none.ofWalker(0, 2), 7493);
        Due.same("none left: its MINUTE", none.house(0), 7);
        none.tellPose(0);
        Due.same("told its POSE: LOST once all the same", none.ofWalker(0, 9), 1);
        Due.same("told its POSE: SURE", none.ofWalker(0, 4), 1);
    }

    /** EDGES to the outside are passed over; one that is SURE can be LOST by what they tell. */
    private static void lostAtTheOutside() {
        Bumpward b = Setup.sureOfAnotherCell();
        Setup.turnAround(b, 0);
        Due.same("SURE to face the outside", b.where(0, 0), 1L << 2);
        Due.so("no BUMP", !b.forward(0, true));
        Due.same("it really went", b.ofWalker(0, 0), 2 * 4);
        Due.same("LOST", b.ofWalker(0, 9), 1);
        Due.same("all anew", b.ofWalker(0, 3), 144);
        Due.same("the outside is a WALL still", b.map(0, 2, 0), 2);
        Due.same("nothing is put", known(b), 501);
        Bumpward right = new Bumpward();
        right.walker(2, 0, 100, true);
        Due.so("a BUMP at the outside", right.forward(0, false));
        right.feel(0, false);
        Due.same("the outside is passed over", known(right), 200);
        Due.same("SURE still, not LOST", right.ofWalker(0, 3) * 10 + right.ofWalker(0, 9), 10);
    }

    /** What is put stays, also if the WALKER is LOST by that act. */
    private static void whatIsPutStays() {
        Bumpward b = Setup.sureOfAnotherCell();
        Setup.turnAround(b, 0);
        b.edge(8, 3, 1, 0);
        Due.same("left and right of it", b.feel(0, true), 5);
        Due.same("LOST", b.ofWalker(0, 9), 1);
        Due.same("put: was FREE", b.map(0, 2, 3), 2);
        Due.same("put: was WALL", b.map(0, 2, 1), 2);
        Due.same("passed over", b.map(0, 2, 0), 2);
        Due.same("what it knows", known(b), 402);
        Bumpward free = Setup.sureOfAnotherCell();
        Setup.turnAround(free, 0);
        free.edge(8, 1, 0, 0);
        Due.same("none around it", free.feel(0, true), 0);
        Due.same("LOST by that too", free.ofWalker(0, 9), 1);
        Due.same("put as FREE, was WALL", free.map(0, 3, 3), 1);
    }

    // ---- 4. home and what is safe

    /** WAY: the fewest EDGES that are FREE by its MAP; NONE without one. */
    private static void wayNoneToLongest() {
        Bumpward b = alongThePath(500);
        for (int steps = 0; steps < 36; steps++) {
            Due.same("WAY of " + steps, b.way(0, 0, Setup.onPath(steps)), steps);
            Due.same("WAY of " + steps + " back", b.way(0, Setup.onPath(steps), 0), steps);
        }
        Bumpward two = new Bumpward();
        two.walker(14, 1, 100, true);
        Due.same("to the CELL itself, nothing known", two.way(0, 35, 35), 0);
        Due.same("NONE is -1", two.way(0, 14, 15), -1);
        two.forward(0, false);
        Due.same("by a FREE one", two.way(0, 15, 14), 1);
        Due.same("an UNKNOWN one is none", two.way(0, 14, 13), -1);
        two.edge(14, 1, 1, 0);
        Due.same("by its MAP, not by the floor", two.way(0, 14, 15), 1);
    }

    /** WALKER 0 has gone the whole path from CELL 0 to CELL 30 and knows all EDGES. */
    private static Bumpward alongThePath(int charge) {
        Bumpward b = Setup.path();
        b.walker(0, 1, charge, true);
        b.feel(0, true);
        Setup.goAlong(b, 0, 35);
        return b;
    }

    /** COST: twice the WAY, and 2. SAFE: if its CHARGE less 1 is no less than COST. */
    private static void costAndSafeByTheWay() {
        Bumpward home = new Bumpward();
        home.walker(14, 1, 100, true);
        Due.same("RETURN and COST at HOME", home.safety(0, 0) * 100 + home.safety(0, 1), 2);
        for (int act = 0; act < 5; act++) {
            safeOrNot("at HOME with 3", atHomeWith(3), act, true);
            safeOrNot("at HOME with 2", atHomeWith(2), act, false);
            safeOrNot("at HOME with 1", atHomeWith(1), act, false);
            safeOrNot("one off with 5", oneOffWith(5), act, true);
            safeOrNot("one off with 4", oneOffWith(4), act, false);
        }
        Bumpward far = alongThePath(500);
        Due.same("RETURN and COST at the end of the path", far.safety(0, 0) * 100 + far.safety(0, 1), 3572);
        int acts = far.ofWalker(0, 10);
        for (int act = 0; act < 5; act++) {
            safeOrNot("35 off with 73", alongThePath(acts + 73), act, true);
            safeOrNot("35 off with 72", alongThePath(acts + 72), act, false);
        }
    }

    private static Bumpward atHomeWith(int charge) {
        Bumpward b = new Bumpward();
        b.walker(14, 1, charge, true);
        return b;
    }

    private static Bumpward oneOffWith(int charge) {
        Bumpward b = new Bumpward();
        b.walker(14, 1, charge + 1, true);
        b.forward(0, true);
        b.tellPose(0);
        Due.same("RETURN and COST one off", b.safety(0, 0) * 100 + b.safety(0, 1), 104);
        return b;
    }

    /** An act that is not SAFE is refused, but by force. */
    private static void safeOrNot(String when, Bumpward b, int act, boolean isSafe) {
        String what = Setup.ACTS[act] + " " + when;
        Due.same(what + ": SAFE", b.safety(0, 2), isSafe ? 1 : 0);
        if (isSafe) {
            Due.allowed(what, () -> Setup.act(b, 0, act, false));
        } else {
            Due.thrown(what, b, Due.STATE, () -> Setup.act(b, 0, act, false));
            Due.allowed(what + " by force", () -> Setup.act(b, 0, act, true));
        }
    }

    /** Of one that is not SURE, if its CHARGE is above 20. */
    private static void safeIfNotSure() {
        for (int act = 0; act < 5; act++) {
            safeOrNot("not told, with 21", notTold(21), act, true);
            safeOrNot("not told, with 20", notTold(20), act, false);
            safeOrNot("of two POSES, with 21", ofTwoPoses(21), act, true);
            safeOrNot("of two POSES, with 20", ofTwoPoses(20), act, false);
        }
        Due.same("RETURN of one that is not SURE", notTold(21).safety(0, 0), -2);
        Due.same("COST of one that is not SURE", ofTwoPoses(21).safety(0, 1), -2);
    }

    private static Bumpward notTold(int charge) {
        Bumpward b = new Bumpward();
        b.walker(14, 1, charge, false);
        return b;
    }

    private static Bumpward ofTwoPoses(int charge) {
        Bumpward b = new Bumpward();
        b.walker(14, 1, charge + 1, true);
        b.forward(0, true);
        return b;
    }

    /** Of one that has no RETURN, if its CHARGE is above 20. */
    private static void safeWithoutReturn() {
        for (int act = 0; act < 5; act++) {
            safeOrNot("without a RETURN, with 21", withoutReturn(21), act, true);
            safeOrNot("without a RETURN, with 20", withoutReturn(20), act, false);
        }
    }

    private static Bumpward withoutReturn(int charge) {
        Bumpward b = notTold(charge + 1);
        b.forward(0, true);
        b.tellPose(0);
        Due.same("SURE, RETURN, COST", b.ofWalker(0, 4) * 100 + b.safety(0, 0) * 10 + b.safety(0, 1), 89);
        return b;
    }

    /** FORWARD is refused, if it is SURE of a POSE, and the CELL ahead is BARRED; force does not help. */
    private static void barredAheadOfASureOne() {
        for (int facing = 0; facing < 4; facing++) {
            for (int kind = 0; kind <= 2; kind++) {
                Bumpward b = new Bumpward();
                b.cell(Setup.beyond(14, facing), kind == 1, true);
                b.edge(14, facing, kind, 0);
                b.walker(14, facing, 100, true);
                String what = "BARRED to " + facing + ", whatever the EDGE: " + kind;
                Due.thrown(what, b, Due.STATE, () -> b.forward(0, false));
                Due.thrown(what + ", by force", b, Due.STATE, () -> b.forward(0, true));
            }
        }
        Bumpward two = ofTwoPoses(50);
        two.cell(15, false, true);
        two.cell(16, false, true);
        Due.allowed("of two POSES, both with a BARRED one ahead", () -> two.forward(0, false));
        Due.same("it is in a BARRED one", two.ofWalker(0, 0), 16 * 4 + 1);
        Bumpward many = notTold(50);
        many.cell(15, false, true);
        Due.allowed("not SURE, a BARRED one ahead", () -> many.forward(0, false));
        Bumpward open = atHomeWith(50);
        open.cell(15, false, true);
        open.cell(15, true, false);
        Due.allowed("no longer BARRED", () -> open.forward(0, false));
    }

    private static void barredIsByTheCellOfWhichItIsSure() {
        Bumpward b = Setup.sureOfAnotherCell();
        b.cell(8, false, true);
        Due.thrown("BARRED ahead of the CELL of which it is SURE", b, Due.STATE, () -> b.forward(0, true));
        b.cell(8, false, false);
        b.cell(14, false, true);
        Due.allowed("BARRED ahead of where it really is", () -> b.forward(0, true));
        Due.same("it really is in a BARRED one", b.ofWalker(0, 0) / 4, 14);
    }

    /** (Within the floor.) Other acts, and FORWARD out of a BARRED CELL, are not refused. */
    private static void barredHindersNothingElse() {
        for (int cell = 0; cell < 36; cell++) {
            for (int side = 0; side < 4; side++) {
                if (Setup.isOuter(cell, side)) {
                    Bumpward b = new Bumpward();
                    for (int barred = 0; barred < 36; barred++) {
                        b.cell(barred, false, true);
                    }
                    b.walker(cell, side, 100, true);
                    Due.allowed("the outside is not BARRED: " + cell, () -> b.forward(0, false));
                    Due.same("a BUMP there", b.ofWalker(0, 11), 1);
                }
            }
        }
        Bumpward b = new Bumpward();
        b.cell(14, false, true);
        b.cell(15, false, true);
        b.walker(14, 1, 100, true);
        for (int act = Setup.LEFT; act <= Setup.LISTEN; act++) {
            int tried = act;
            Due.allowed("at a BARRED one: " + Setup.ACTS[act], () -> Setup.act(b, 0, tried, false));
        }
        b.turn(0, true, false);
        Due.allowed("out of a BARRED one", () -> b.forward(0, false));
        Due.same("out of it", b.ofWalker(0, 0), 20 * 4 + 2);
    }

    // ---- 5. meeting, searching, scores

    /** Two WALKERS that are SURE, and really in one CELL, can MEET. */
    private static void meetOnlySureOnesInOneCell() {
        Bumpward b = Setup.sureOfAnotherCell();
        b.walker(2, 1, 100, true);
        b.walker(8, 1, 100, true);
        Due.thrown("really in two CELLS", b, Due.STATE, () -> b.meet(0, 1));
        Due.thrown("really in two CELLS, the other first", b, Due.STATE, () -> b.meet(1, 0));
        Due.same("really in one CELL", b.meet(0, 2), 6);
        Due.same("UNKNOWN becomes known there", b.ofWalker(2, 5) * 10 + b.ofWalker(2, 6), 51);
        Due.same("both know all: none", b.meet(2, 0), 0);
        Due.same("meetings", b.house(9), 2);
        Bumpward two = ofTwoPoses(50);
        two.walker(15, 1, 100, true);
        Due.thrown("of two POSES", two, Due.STATE, () -> two.meet(0, 1));
        Due.thrown("of two POSES, the other first", two, Due.STATE, () -> two.meet(1, 0));
        two.tellPose(0);
        Due.same("of one POSE", two.meet(1, 0), 1);
        Bumpward many = notTold(50);
        many.walker(14, 1, 50, false);
        Due.thrown("both not SURE", many, Due.STATE, () -> many.meet(0, 1));
        many.tellPose(0);
        Due.thrown("one of both not SURE", many, Due.STATE, () -> many.meet(0, 1));
        many.tellPose(1);
        Due.same("both SURE, nothing known", many.meet(0, 1), 0);
        Due.same("takes no MINUTE", many.house(0), 0);
    }

    /** EDGES that both know another way stay as they are (counted at each meeting: DISPUTES). */
    private static void disputesAtEachMeeting() {
        Bumpward b = new Bumpward();
        b.walker(14, 1, 100, true);
        b.walker(14, 3, 100, true);
        b.feel(0, false);
        for (int side = 0; side < 4; side++) {
            b.edge(14, side, 1, 0);
        }
        b.feel(1, false);
        Due.same("one becomes known to each", b.meet(0, 1), 2);
        Due.same("DISPUTES: above and below", b.house(10), 2);
        Due.same("they stay FREE", b.map(0, 14, 0) * 10 + b.map(0, 14, 2), 11);
        Due.same("they stay WALL", b.map(1, 14, 0) * 10 + b.map(1, 14, 2), 22);
        Due.same("none becomes known", b.meet(0, 1), 0);
        Due.same("DISPUTES at each meeting", b.house(10), 4);
        b.feel(0, false);
        Due.same("none becomes known now", b.meet(1, 0), 0);
        Due.same("both felt WALL: but one DISPUTE more", b.house(10), 5);
    }

    /** GOAL: of CELLS with an UNKNOWN EDGE that with the shortest WAY (of several the smallest CELL). */
    private static void goalOfSeveralTheSmallest() {
        Due.same("GOAL of one that is not SURE", notTold(50).safety(0, 3), -2);
        Due.same("GOAL of two POSES", ofTwoPoses(50).safety(0, 3), -2);
        for (int cell = 0; cell < 36; cell++) {
            Bumpward b = new Bumpward();
            b.walker(cell, 1, 100, true);
            Due.same("GOAL with WAY 0", b.safety(0, 3), cell);
        }
        Due.same("GOAL: 8, 13, 15 and 20", aroundWith().safety(0, 3), 8);
        Due.same("GOAL: 8 and 20", aroundWith(1, 3).safety(0, 3), 8);
        Due.same("GOAL: 13, 15 and 20", aroundWith(0).safety(0, 3), 13);
        Due.same("GOAL: 15 and 20", aroundWith(0, 3).safety(0, 3), 15);
        Due.same("GOAL: 20", aroundWith(0, 3, 1).safety(0, 3), 20);
        Due.same("GOAL: none that has a WAY", aroundWith(0, 1, 2, 3).safety(0, 3), -1);
    }

    /** WALKER 0 knows the EDGES of CELL 14, of which those SIDES are WALLS. */
    private static Bumpward aroundWith(int... walls) {
        Bumpward b = new Bumpward();
        for (int side : walls) {
            b.edge(14, side, 1, 0);
        }
        b.walker(14, 1, 100, true);
        b.feel(0, false);
        Setup.turnAround(b, 0);
        b.feel(0, false);
        return b;
    }

    /** The farthest GOAL there is, and NONE on a MAP without UNKNOWN ones. */
    private static void goalFarthestAndNone() {
        Bumpward far = Setup.path();
        far.walker(Setup.onPath(34), 1, 500, true);
        far.feel(0, true);
        Setup.goAlong(far, 34, 0);
        Due.same("59 are known", far.ofWalker(0, 5) + far.ofWalker(0, 6), 59);
        Due.same("WAY to the CELL at the last one", far.way(0, 0, 31), 34);
        Due.same("no WAY to the CELL behind it", far.way(0, 0, 30), -1);
        Due.same("GOAL with WAY 34", far.safety(0, 3), 31);
        Bumpward all = alongThePath(500);
        Due.same("60 are known", all.ofWalker(0, 5) * 100 + all.ofWalker(0, 6), 3525);
        Due.same("GOAL without an UNKNOWN one", all.safety(0, 3), -1);
    }

    /** WORST: an answer by which BELIEF would be empty does not count; nothing is put for this. */
    private static void worstCountsNoEmptyAnswer() {
        Bumpward unknown = atHomeWith(50);
        worstIs("UNKNOWN ahead", unknown, 2, 1, 1);
        Bumpward outside = new Bumpward();
        outside.walker(0, 0, 50, true);
        worstIs("the outside ahead", outside, 1, 1, 1);
        Bumpward wall = aroundWith(1);
        Setup.turnAround(wall, 0);
        worstIs("a WALL ahead", wall, 1, 1, 1);
        wall.edge(14, 1, 0, 0);
        worstIs("a WALL ahead by its MAP as it is", wall, 1, 1, 1);
        Bumpward free = aroundWith();
        worstIs("FREE ahead", free, 2, 1, 1);
        Due.same("nothing is put", known(free), 400);
        worstIs("all 144, nothing known", notTold(50), 144, 144, 144);
        worstIs("LOST", Setup.lost(), 142, 144, 130);
    }

    private static void worstIs(String when, Bumpward b, int forward, int turn, int feel) {
        Due.same("WORST of FORWARD: " + when, b.worst(0, 0), forward);
        Due.same("WORST of LEFT: " + when, b.worst(0, 1), turn);
        Due.same("WORST of RIGHT: " + when, b.worst(0, 2), turn);
        Due.same("WORST of FEEL: " + when, b.worst(0, 3), feel);
    }

    /** To TELL MOST: that with the least WORST; of several the smallest number. */
    private static void tellMostOfSeveralTheSmallest() {
        Due.same("all four alike", notTold(50).best(0), 0);
        Due.same("three alike, FORWARD tells less", atHomeWith(50).best(0), 1);
        Due.same("FEEL alone tells most", Setup.lost().best(0), 3);
        Bumpward wall = new Bumpward();
        wall.walker(0, 0, 50, true);
        Due.same("SURE, the outside ahead: all four alike", wall.best(0), 0);
    }

    /** RIGHT: how many EDGES within the floor it has as they are now (a DOOR as it is now); WRONG. */
    private static void rightAndWrongOfSixty() {
        Bumpward b = alongThePath(500);
        Due.same("all are RIGHT", b.ofWalker(0, 7) * 100 + b.ofWalker(0, 8), 6000);
        b.edge(0, 1, 1, 0);
        Due.same("a WALL now: WRONG", b.ofWalker(0, 7) * 100 + b.ofWalker(0, 8), 5901);
        b.edge(0, 1, 2, 0);
        Due.same("a DOOR that is not OPEN: WRONG", b.ofWalker(0, 7) * 100 + b.ofWalker(0, 8), 5901);
        b.edge(0, 1, 2, 1 << b.house(1));
        Due.same("an OPEN DOOR: RIGHT", b.ofWalker(0, 7) * 100 + b.ofWalker(0, 8), 6000);
        Setup.waitUntil(b, b.house(1) * 60 + 59);
        Due.same("an OPEN DOOR in its last MINUTE: RIGHT", b.ofWalker(0, 8), 0);
        b.pass(1);
        Due.same("a DOOR that is OPEN no more: WRONG", b.ofWalker(0, 7) * 100 + b.ofWalker(0, 8), 5901);
        b.edge(0, 1, 0, 0);
        b.edge(0, 2, 2, 0);
        Due.same("a DOOR for a WALL: RIGHT", b.ofWalker(0, 8), 0);
        int walls = b.lay(0);
        Due.same("together 60 all the same", b.ofWalker(0, 7) + b.ofWalker(0, 8), 60);
        Due.so("some are WRONG", walls > 0 && b.ofWalker(0, 8) > 0);
        Due.same("the rest is UNKNOWN", atHomeWith(50).ofWalker(0, 7) + atHomeWith(50).ofWalker(0, 8), 0);
    }

    /** The PORTER of the house sleeps: who calls holds no key, and is REFUSED (counted). */
    private static void thePorterRefusesEachOne() {
        Bumpward b = new Bumpward();
        Due.same("none at first", b.house(11), 0);
        for (int call = 1; call <= 100; call++) {
            Due.same("call " + call, b.call(), call);
        }
        Due.same("REFUSED", b.house(11), 100);
        Due.same("takes no MINUTE", b.house(0), 0);
        Setup.waitUntil(b, 3000);
        Due.same("at MINUTE 3000 too", b.call(), 101);
    }
}
