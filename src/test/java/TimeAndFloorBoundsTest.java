/**
 * The boundary cases that the terms 0 to 2 name: time and draws, the floor, WALKERS. Each test quotes
 * its sentence.
 */
public final class TimeAndFloorBoundsTest {

    private static final int ALL_HOURS = 16777215;

    private TimeAndFloorBoundsTest() {
    }

    public static void main(String[] args) {
        minuteIs3000AtMost();
        hoursOfTheMinutes();
        eachActTakesAMinute();
        nothingElseTakesAMinute();
        waitingIsNoAct();
        drawnNumbersAreARow();
        eachDrawnIsTheNextOneOfAll();
        cellsAndTheirEdges();
        thereAreSixtyEdges();
        outsideIsAWallAlways();
        edgesAreFreeAtFirst();
        doorsByEachHour();
        doorsAsTheActBegins();
        neitherCarpetNorBarredAtFirst();
        threeWalkersAtMost();
        posesAreToldByCellAndFacing();
        severalInOneCell();
        eachActTakesCharge();
        theLastCharge();
        bumpsAndSlips();
        turningWrapsAround();
        feltSetsOfAllKinds();
        heardWithinTwoCells();
        anObjectIsGoodFor512Calls();
        Due.end("TimeAndFloorBoundsTest");
    }

    // ---- 0. time and draws

    /** MINUTE is 0 at first, 3000 at most. */
    private static void minuteIs3000AtMost() {
        Due.same("MINUTE at first", new Bumpward().house(0), 0);
        for (int act = 0; act < 5; act++) {
            int tried = act;
            Bumpward b = Setup.atMinute(2999);
            b.walker(14, 1, 500, true);
            Due.allowed("MINUTE 2999: " + Setup.ACTS[act], () -> Setup.act(b, 0, tried, false));
            Due.same("MINUTE behind the last " + Setup.ACTS[act], b.house(0), 3000);
            Due.thrown("MINUTE 3000: " + Setup.ACTS[act], b, Due.STATE, () -> Setup.act(b, 0, tried, false));
            Due.thrown("MINUTE 3000: forced " + Setup.ACTS[act], b, Due.STATE, () -> Setup.act(b, 0, tried, true));
        }
        Bumpward b = Setup.atMinute(2999);
        Due.thrown("pass(2) at 2999", b, Due.STATE, () -> b.pass(2));
        Due.same("pass(1) at 2999", b.pass(1), 3000);
        Due.thrown("pass(1) at 3000", b, Due.STATE, () -> b.pass(1));
        b.walker(14, 1, 500, true);
        Due.same("what takes no MINUTE is done at 3000 too", b.charge(0, 7) + b.tellPose(0) + b.call(), 502);
    }

    /** HOUR is MINUTE / 60 modulo 24; what is divided is rounded down. */
    private static void hoursOfTheMinutes() {
        int[][] hours = {{0, 0}, {59, 0}, {60, 1}, {119, 1}, {120, 2}, {1379, 22}, {1380, 23}, {1439, 23},
            {1440, 0}, {1499, 0}, {1500, 1}, {2819, 22}, {2820, 23}, {2879, 23}, {2880, 0}, {2939, 0}, {2940, 1},
            {2999, 1}, {3000, 2}};
        for (int[] pair : hours) {
            Due.same("HOUR at MINUTE " + pair[0], Setup.atMinute(pair[0]).house(1), pair[1]);
        }
    }

    /** Each act of a WALKER takes a MINUTE (as it is done, MINUTE is 1 more behind it). */
    private static void eachActTakesAMinute() {
        for (int act = 0; act < 5; act++) {
            Bumpward b = new Bumpward();
            b.walker(14, 1, 500, true);
            Setup.act(b, 0, act, false);
            Due.same("a MINUTE of " + Setup.ACTS[act], b.house(0), 1);
        }
        Bumpward bump = new Bumpward();
        bump.walker(0, 0, 500, true);
        Due.so("a BUMP", bump.forward(0, false));
        Due.same("a MINUTE of a BUMP", bump.house(0), 1);
        Bumpward slip = beforeASlip();
        int before = slip.house(0);
        slip.forward(1, true);
        Due.same("it SLIPS", slip.ofWalker(1, 12), 1);
        Due.same("a MINUTE of a SLIP", slip.house(0), before + 1);
    }

    /** The next number DRAWN is 54, and WALKER 1 is in CELL 30, facing up, on CARPET. */
    private static Bumpward beforeASlip() {
        Bumpward b = new Bumpward();
        b.cell(35, true, false);
        b.cell(29, true, false);
        b.cell(30, true, false);
        b.walker(35, 0, 500, true);
        b.walker(30, 0, 500, true);
        b.forward(0, true);
        b.forward(0, true);
        return b;
    }

    private static void nothingElseTakesAMinute() {
        Bumpward b = Setup.atMinute(59);
        b.edge(14, 1, 1, 0);
        b.lay(3);
        b.cell(0, true, true);
        b.walker(14, 1, 500, true);
        b.walker(14, 1, 500, true);
        b.charge(0, 400);
        b.tellPose(0);
        b.meet(0, 1);
        b.call();
        Due.same("MINUTE behind what is no act", b.house(0), 59);
        Due.same("acts behind what is no act", b.ofWalker(0, 10) + b.ofWalker(1, 10), 0);
        Due.same("CHARGE behind what is no act", b.ofWalker(0, 2) + b.ofWalker(1, 2), 900);
    }

    /** To WAIT lets MINUTES go by. */
    private static void waitingIsNoAct() {
        Bumpward b = new Bumpward();
        b.walker(14, 1, 1, true);
        Due.same("pass(600)", b.pass(600), 600);
        Due.same("pass: no CHARGE is taken", b.ofWalker(0, 2), 1);
        Due.same("pass: it is no act", b.ofWalker(0, 10), 0);
        Due.same("pass: nothing is DRAWN", b.house(8), 0);
    }

    /**
     * The first one is 7, each next one is (29 * the one ahead + 13) modulo 127; with one that can be
     * divided by 3 it SLIPS. The 83rd one is 0, which can be divided by 3; the 127th one is 7 again.
     */
    private static void drawnNumbersAreARow() {
        Bumpward b = new Bumpward();
        for (int cell = 0; cell < 6; cell++) {
            b.cell(cell, true, false);
        }
        b.walker(0, 1, 500, true);
        int number = 7;
        int slips = 0;
        for (int drawn = 0; drawn < 128; drawn++) {
            boolean isAtTheEnd = b.forward(0, true);
            if (isAtTheEnd) {
                Setup.turnAround(b, 0);
                b.forward(0, true);
            }
            slips += number % 3 == 0 ? 1 : 0;
            Due.same("SLIPS by the DRAWN number " + number, b.ofWalker(0, 12), slips);
            number = (29 * number + 13) % 127;
        }
        Due.same("DRAWN numbers ever", b.house(8), 128);
    }

    /** DRAWN numbers are a row; each DRAWN is the next one: one row for all WALKERS. */
    private static void eachDrawnIsTheNextOneOfAll() {
        Bumpward b = beforeASlip();
        Due.same("the first two are no SLIPS", b.ofWalker(0, 12), 0);
        Due.same("WALKER 0 went twice", b.ofWalker(0, 0), 23 * 4);
        b.forward(1, true);
        Due.same("the third one is drawn for WALKER 1", b.ofWalker(1, 12), 1);
        Due.same("WALKER 1 stays", b.ofWalker(1, 0), 30 * 4);
        Due.same("three DRAWN", b.house(8), 3);
        b.forward(1, true);
        Due.same("the fourth one is no SLIP", b.ofWalker(1, 0), 24 * 4);
    }

    // ---- 1. the floor

    /** 6 by 6 CELLS, numbered row * 6 + column; an EDGE within the floor has two names. */
    private static void cellsAndTheirEdges() {
        for (int cell = 0; cell < 36; cell++) {
            for (int side = 0; side < 4; side++) {
                Bumpward b = new Bumpward();
                int beyond = Setup.beyond(cell, side);
                if (beyond >= 0) {
                    String name = "the EDGE " + cell + ", " + side;
                    Due.same(name + " was FREE", b.edge(cell, side, 2, 9), 0);
                    Due.same(name + " by its other name", b.ofEdge(beyond, (side + 2) % 4, 0), 2);
                    Due.same(name + ": HOURS by its other name", b.ofEdge(beyond, (side + 2) % 4, 2), 9);
                    Due.same(name + " is one alone", b.house(3), 1);
                    Due.same(name + " told by its other name", b.edge(beyond, (side + 2) % 4, 1, 0), 2);
                    Due.same(name + " is a WALL then", b.ofEdge(cell, side, 0), 1);
                    Due.same(name + " is one WALL alone", b.house(2), 1);
                }
            }
        }
    }

    /** There are 60 of them. */
    private static void thereAreSixtyEdges() {
        Bumpward b = new Bumpward();
        int told = 0;
        for (int cell = 0; cell < 36; cell++) {
            for (int side = 1; side <= 2; side++) {
                if (!Setup.isOuter(cell, side)) {
                    b.edge(cell, side, 1, 0);
                    told++;
                    Due.same("WALLS", b.house(2), told);
                }
            }
        }
        Due.same("all EDGES are WALLS", b.house(2), 60);
    }

    /** An EDGE to the outside is a WALL always. */
    private static void outsideIsAWallAlways() {
        for (int hour = 0; hour < 24; hour++) {
            outsideIsAWall("at HOUR " + hour, Setup.atMinute(hour * 60));
        }
        for (int seed = 0; seed <= 126; seed += 9) {
            Bumpward b = new Bumpward();
            b.lay(seed);
            outsideIsAWall("behind lay(" + seed + ")", b);
        }
        for (int cell = 0; cell < 36; cell++) {
            for (int side = 0; side < 4; side++) {
                if (Setup.isOuter(cell, side)) {
                    outsideCanNotBeTold(cell, side);
                }
            }
        }
    }

    private static void outsideIsAWall(String when, Bumpward b) {
        int closed = 0;
        int felt = 0;
        for (int cell = 0; cell < 36; cell++) {
            for (int side = 0; side < 4; side++) {
                if (Setup.isOuter(cell, side)) {
                    closed += b.ofEdge(cell, side, 0) + b.ofEdge(cell, side, 1) + b.ofEdge(cell, side, 2);
                    felt += b.wouldBe(cell, side) & 2;
                }
            }
        }
        Due.same("outside " + when + ": a WALL, as good as one, without HOURS", closed, 24 + 24);
        Due.same("outside " + when + ": felt", felt, 24 * 2);
    }

    private static void outsideCanNotBeTold(int cell, int side) {
        String name = "outside " + cell + ", " + side;
        for (int kind = 0; kind <= 2; kind++) {
            Bumpward b = new Bumpward();
            int told = kind;
            Due.thrown(name + " as " + kind, b, Due.ARGUMENT, () -> b.edge(cell, side, told, ALL_HOURS));
        }
        Bumpward b = new Bumpward();
        b.walker(cell, side, 100, true);
        Due.so(name + ": a BUMP", b.forward(0, false));
        Due.same(name + ": it stays", b.ofWalker(0, 0), cell * 4 + side);
    }

    /** Others are FREE at first. */
    private static void edgesAreFreeAtFirst() {
        Bumpward b = new Bumpward();
        for (int cell = 0; cell < 36; cell++) {
            for (int side = 0; side < 4; side++) {
                Due.same("at first: " + cell + ", " + side, b.ofEdge(cell, side, 0) * 10 + b.ofEdge(cell, side, 1),
                        Setup.isOuter(cell, side) ? 11 : 0);
            }
        }
    }

    /** DOORS with a set of HOURS: OPEN in these, as good as a WALL otherwise. */
    private static void doorsByEachHour() {
        Bumpward b = new Bumpward();
        for (int hour = 0; hour < 24; hour++) {
            b.edge(hour, 2, 2, 1 << hour);
        }
        b.edge(24, 1, 2, 0);
        b.edge(25, 1, 2, ALL_HOURS);
        b.edge(26, 1, 2, ALL_HOURS - 1);
        for (int hour = 0; hour < 24; hour++) {
            Setup.waitUntil(b, hour * 60);
            Due.same("HOUR " + hour + ": its DOOR", b.ofEdge(hour, 2, 1), 0);
            Due.same("HOUR " + hour + ": no HOUR", b.ofEdge(24, 1, 1), 1);
            Due.same("HOUR " + hour + ": each HOUR", b.ofEdge(25, 1, 1), 0);
            Due.same("HOUR " + hour + ": each HOUR but 0", b.ofEdge(26, 1, 1), hour == 0 ? 1 : 0);
            Due.same("HOUR " + hour + ": OPEN ones", b.house(4), hour == 0 ? 2 : 3);
            Setup.waitUntil(b, hour * 60 + 59);
            Due.same("HOUR " + hour + ": still OPEN", b.house(4), hour == 0 ? 2 : 3);
        }
        Setup.waitUntil(b, 1440);
        Due.same("the next day: the DOOR of HOUR 23", b.ofEdge(23, 2, 1), 1);
        Due.same("the next day: the DOOR of HOUR 0", b.ofEdge(0, 2, 1), 0);
        Due.same("DOORS, OPEN or not", b.house(3), 27);
    }

    /** OPEN in these (by the HOUR in which an act begins). */
    private static void doorsAsTheActBegins() {
        int[][] hours = {{59, 0, 1}, {60, 1, 0}, {1439, 23, 0}, {1440, 0, 23}, {2999, 1, 2}};
        for (int[] row : hours) {
            String when = "a DOOR at MINUTE " + row[0];
            Due.so(when + ", its HOUR", !doorAt(row[0], 1 << row[1]).forward(0, true));
            Due.same(when + ", its HOUR felt", doorAt(row[0], 1 << row[1]).feel(0, true), 0);
            Due.so(when + ", the HOUR beside it", doorAt(row[0], 1 << row[2]).forward(0, true));
            Due.same(when + ", the HOUR beside it felt", doorAt(row[0], 1 << row[2]).feel(0, true), 2);
            Due.so(when + ", all other HOURS", doorAt(row[0], ALL_HOURS - (1 << row[1])).forward(0, true));
        }
    }

    private static Bumpward doorAt(int minute, int hours) {
        Bumpward b = Setup.atMinute(minute);
        b.edge(14, 1, 2, hours);
        b.walker(14, 1, 500, true);
        return b;
    }

    /** A CELL can be CARPET, and BARRED (neither at first). */
    private static void neitherCarpetNorBarredAtFirst() {
        Bumpward b = new Bumpward();
        Due.same("at first: CARPETS and BARRED ones", b.house(5) + b.house(6), 0);
        for (int row = 0; row < 6; row++) {
            Due.text("at first: row " + row, b.row(row), ". . . . . .");
        }
        b.walker(0, 1, 500, true);
        for (int k = 0; k < 5; k++) {
            b.forward(0, true);
            b.tellPose(0);
        }
        Due.same("at first: nothing is DRAWN", b.house(8), 0);
        Due.same("at first: nothing hinders", b.ofWalker(0, 0), 5 * 4 + 1);
    }

    // ---- 2. walkers

    /** At most 3, numbered from 0. */
    private static void threeWalkersAtMost() {
        Bumpward b = new Bumpward();
        for (int number = 0; number < 3; number++) {
            Due.same("WALKERS ahead", b.house(7), number);
            Due.same("its number", b.walker(35, 3, 500, number == 1), number);
        }
        Due.thrown("a fourth WALKER", b, Due.STATE, () -> b.walker(35, 3, 500, true));
        Due.thrown("a fourth WALKER elsewhere", b, Due.STATE, () -> b.walker(0, 0, 1, false));
        Due.same("WALKERS", b.house(7), 3);
    }

    /** Each with a POSE (told as CELL * 4 + FACING), a HOME, and a CHARGE. */
    private static void posesAreToldByCellAndFacing() {
        for (int cell = 0; cell < 36; cell++) {
            for (int facing = 0; facing < 4; facing++) {
                Bumpward b = new Bumpward();
                b.walker(cell, facing, 500 - cell, true);
                Due.same("its POSE", b.ofWalker(0, 0), cell * 4 + facing);
                Due.same("its HOME", b.ofWalker(0, 1), cell);
                Due.same("its CHARGE", b.ofWalker(0, 2), 500 - cell);
                Due.so("its BELIEF", b.may(0, cell * 4 + facing) && b.where(0, facing) == 1L << cell);
            }
        }
    }

    /** Several may be in one CELL. */
    private static void severalInOneCell() {
        Bumpward b = new Bumpward();
        b.walker(14, 1, 500, true);
        b.walker(15, 0, 500, true);
        b.walker(15, 0, 500, true);
        Due.so("into a CELL with two", !b.forward(0, false));
        Due.same("three in one CELL", b.ofWalker(0, 0) / 4 + b.ofWalker(1, 0) / 4 + b.ofWalker(2, 0) / 4, 45);
        Due.text("three in one CELL: the smallest number", b.row(2), ". . . 0 . .");
    }

    /** Each act takes 1 of its CHARGE. */
    private static void eachActTakesCharge() {
        for (int act = 0; act < 5; act++) {
            Bumpward b = new Bumpward();
            b.walker(14, 1, 500, true);
            b.walker(14, 1, 500, true);
            Setup.act(b, 0, act, false);
            Due.same("CHARGE behind " + Setup.ACTS[act], b.ofWalker(0, 2), 499);
            Due.same("acts behind " + Setup.ACTS[act], b.ofWalker(0, 10), 1);
            Due.same("the other one behind " + Setup.ACTS[act], b.ofWalker(1, 2) * 10 + b.ofWalker(1, 10), 5000);
        }
    }

    /** Without any it does nothing more (refused). */
    private static void theLastCharge() {
        for (int last = 0; last < 5; last++) {
            int tried = last;
            Bumpward b = new Bumpward();
            b.walker(14, 1, 1, true);
            Due.allowed("with CHARGE 1: " + Setup.ACTS[last], () -> Setup.act(b, 0, tried, true));
            Due.same("none left", b.ofWalker(0, 2), 0);
            for (int act = 0; act < 5; act++) {
                int more = act;
                Due.thrown("without CHARGE: " + Setup.ACTS[act], b, Due.STATE, () -> Setup.act(b, 0, more, true));
            }
            Due.same("without CHARGE: one act ever", b.ofWalker(0, 10), 1);
        }
    }

    /** With a BUMP nothing is DRAWN; it is DRAWN if it stands on CARPET, not if CARPET is ahead. */
    private static void bumpsAndSlips() {
        Bumpward ahead = new Bumpward();
        ahead.cell(15, true, false);
        ahead.walker(14, 1, 500, true);
        ahead.forward(0, false);
        Due.same("CARPET ahead: nothing is DRAWN", ahead.house(8), 0);
        ahead.forward(0, false);
        Due.same("CARPET below: one is DRAWN", ahead.house(8), 1);
        for (int kind = 1; kind <= 2; kind++) {
            Bumpward b = beforeASlip();
            b.edge(30, 0, kind, 0);
            Due.so("a BUMP on CARPET", b.forward(1, true));
            Due.same("a BUMP is no SLIP", b.ofWalker(1, 11) * 10 + b.ofWalker(1, 12), 10);
            Due.same("with a BUMP nothing is DRAWN", b.house(8), 2);
        }
        Bumpward slip = beforeASlip();
        Due.so("a SLIP is no BUMP", !slip.forward(1, true));
        Due.same("a SLIP is counted alone", slip.ofWalker(1, 11) * 10 + slip.ofWalker(1, 12), 1);
        Bumpward others = beforeASlip();
        others.turn(1, true, true);
        others.feel(1, true);
        others.listen(1, true);
        Due.same("on CARPET other acts draw nothing", others.house(8), 2);
    }

    /** LEFT, RIGHT: it turns (FACING - 1, FACING + 1, modulo 4). */
    private static void turningWrapsAround() {
        for (int facing = 0; facing < 4; facing++) {
            Bumpward left = new Bumpward();
            left.walker(35, facing, 500, true);
            left.turn(0, false, false);
            Due.same("left of " + facing, left.ofWalker(0, 0), 35 * 4 + (facing == 0 ? 3 : facing - 1));
            Due.so("left of " + facing + ": BELIEF", left.may(0, left.ofWalker(0, 0)));
            Bumpward right = new Bumpward();
            right.walker(0, facing, 500, true);
            right.turn(0, true, false);
            Due.same("right of " + facing, right.ofWalker(0, 0), facing == 3 ? 0 : facing + 1);
            Due.so("right of " + facing + ": BELIEF", right.may(0, right.ofWalker(0, 0)));
        }
    }

    /** FEEL: which of the EDGES left, ahead and right of it (a set: 0 left, 1 ahead, 2 right). */
    private static void feltSetsOfAllKinds() {
        for (int facing = 0; facing < 4; facing++) {
            for (int set = 0; set < 8; set++) {
                for (int kind = 1; kind <= 2; kind++) {
                    Bumpward b = new Bumpward();
                    b.edge(14, (facing + 2) % 4, 1, 0);
                    for (int k = 0; k < 3; k++) {
                        b.edge(14, (facing + 3 + k) % 4, (set >> k & 1) == 1 ? kind : 0, 0);
                    }
                    b.walker(14, facing, 500, true);
                    Due.same("it would feel", b.wouldBe(14, facing), set);
                    Due.same("it feels", b.feel(0, false), set);
                }
            }
        }
    }

    /** LISTEN: how many other WALKERS are within 2 CELLS (rows and columns together 2 or less). */
    private static void heardWithinTwoCells() {
        for (int one = 0; one < 36; one++) {
            for (int other = 0; other < 36; other++) {
                int off = Math.abs(one / 6 - other / 6) + Math.abs(one % 6 - other % 6);
                Bumpward b = new Bumpward();
                b.walker(one, 0, 500, true);
                b.walker(other, 0, 500, false);
                Due.same("heard in " + one + " of " + other, b.listen(0, false), off <= 2 ? 1 : 0);
            }
        }
        Bumpward b = new Bumpward();
        b.walker(14, 0, 500, true);
        b.walker(2, 0, 500, true);
        b.walker(16, 0, 500, true);
        Due.same("two others, each 2 off", b.listen(0, false), 2);
        Due.same("one 2 off, one 4 off", b.listen(1, false), 1);
    }

    /** An object is used for at most 512 calls after it has been made. */
    private static void anObjectIsGoodFor512Calls() {
        Bumpward b = new Bumpward();
        b.walker(14, 0, 500, true);
        for (int call = 2; call <= 501; call++) {
            b.turn(0, call % 2 == 0, true);
        }
        Due.same("call 502", b.charge(0, 500), 0);
        for (int call = 503; call <= 511; call++) {
            Due.same("call " + call, b.turn(0, true, true), 1);
        }
        Due.same("call 512", b.ofWalker(0, 10), 509);
    }
}
