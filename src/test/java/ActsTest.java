/** Promises 5 to 9: to set a WALKER down, and its acts. */
public final class ActsTest {

    private ActsTest() {
    }

    public static void main(String[] args) {
        promise5Walker();
        promise5WalkerRefused();
        promise6ForwardOnTheFloor();
        promise6ForwardByHours();
        promise6Carpet();
        promise6WhatSureOnesLearn();
        promise6WhatOthersLearn();
        promise6SureButWrong();
        promise6LostByForward();
        promise6Barred();
        promise6To9Charge();
        promise6To9Safe();
        promise6To9LastMinute();
        promise6To9NoSuchWalker();
        promise7Turn();
        promise8Feel();
        promise8LostByFeel();
        promise9Listen();
        Due.end("ActsTest");
    }

    private static void promise5Walker() {
        Bumpward b = new Bumpward();
        Due.same("walker: the first", b.walker(9, 3, 1, true), 0);
        Due.same("walker: the second, in the same CELL", b.walker(9, 0, 500, false), 1);
        Due.same("walker: the third", b.walker(35, 2, 77, true), 2);
        int[][] due = {
            {39, 9, 1, 1, 1, 0, 0, 0, 0, 0, 0, 0, 0},
            {36, 9, 500, 144, 0, 0, 0, 0, 0, 0, 0, 0, 0},
            {142, 35, 77, 1, 1, 0, 0, 0, 0, 0, 0, 0, 0}};
        for (int walker = 0; walker < 3; walker++) {
            for (int what = 0; what <= 12; what++) {
                Due.same("walker: ofWalker(" + walker + ", " + what + ")", b.ofWalker(walker, what),
                        due[walker][what]);
            }
        }
        Due.so("walker: told its POSE", b.may(0, 39) && b.may(2, 142) && !b.may(0, 38));
        Due.same("walker: takes no MINUTE", b.house(0), 0);
        Due.same("walker: WALKERS", b.house(7), 3);
    }

    private static void promise5WalkerRefused() {
        Bumpward b = new Bumpward();
        Due.thrown("walker: cell -1", b, Due.INDEX, () -> b.walker(-1, 0, 1, true));
        Due.thrown("walker: cell 36, ahead of the others", b, Due.INDEX, () -> b.walker(36, 4, 0, true));
        Due.thrown("walker: facing -1", b, Due.ARGUMENT, () -> b.walker(0, -1, 1, true));
        Due.thrown("walker: facing 4", b, Due.ARGUMENT, () -> b.walker(0, 4, 1, true));
        Due.thrown("walker: charge 0", b, Due.ARGUMENT, () -> b.walker(0, 0, 0, true));
        Due.thrown("walker: charge 501", b, Due.ARGUMENT, () -> b.walker(0, 0, 501, true));
        b.walker(0, 0, 1, true);
        b.walker(0, 0, 1, true);
        b.walker(0, 0, 1, true);
        Due.thrown("walker: a fourth", b, Due.STATE, () -> b.walker(0, 0, 1, true));
        Due.thrown("walker: a fourth, no CELL", b, Due.INDEX, () -> b.walker(36, 0, 1, true));
        Due.thrown("walker: a fourth, no FACING", b, Due.ARGUMENT, () -> b.walker(0, 4, 1, true));
        Due.thrown("walker: a fourth, no CHARGE", b, Due.ARGUMENT, () -> b.walker(0, 0, 0, true));
    }

    private static void promise6ForwardOnTheFloor() {
        int[] behind = {8 * 4, 15 * 4 + 1, 20 * 4 + 2, 13 * 4 + 3};
        for (int facing = 0; facing < 4; facing++) {
            Bumpward b = new Bumpward();
            b.walker(14, facing, 100, true);
            Due.so("forward: no BUMP to " + facing, !b.forward(0, false));
            Due.same("forward: one CELL to " + facing, b.ofWalker(0, 0), behind[facing]);
            Due.same("forward: CHARGE", b.ofWalker(0, 2), 99);
            Due.same("forward: acts", b.ofWalker(0, 10), 1);
            Due.same("forward: BUMPS", b.ofWalker(0, 11), 0);
            Due.same("forward: MINUTE", b.house(0), 1);
            Bumpward walled = new Bumpward();
            walled.edge(14, facing, 1, 0);
            walled.walker(14, facing, 100, true);
            Due.so("forward: a BUMP to " + facing, walled.forward(0, false));
            Due.same("forward: stays, facing " + facing, walled.ofWalker(0, 0), 14 * 4 + facing);
            Due.same("forward: counted BUMPS", walled.ofWalker(0, 11), 1);
            Due.same("forward: a BUMP takes a MINUTE", walled.house(0), 1);
            Due.same("forward: a BUMP takes CHARGE", walled.ofWalker(0, 2), 99);
        }
        int[] border = {2, 17, 33, 12};
        for (int facing = 0; facing < 4; facing++) {
            Bumpward b = new Bumpward();
            b.walker(border[facing], facing, 100, true);
            Due.so("forward: a BUMP at the outside", b.forward(0, false));
            Due.same("forward: SURE still", b.ofWalker(0, 3), 1);
            Due.same("forward: nothing put", b.ofWalker(0, 5) + b.ofWalker(0, 6), 0);
        }
    }

    private static void promise6ForwardByHours() {
        Bumpward b = new Bumpward();
        b.edge(14, 1, 2, 1);
        b.walker(14, 1, 500, true);
        b.pass(59);
        Due.so("forward: the DOOR is OPEN as the act begins", !b.forward(0, false));
        Due.same("forward: behind the DOOR", b.ofWalker(0, 0), 15 * 4 + 1);
        b.turn(0, true, false);
        b.turn(0, true, false);
        Due.so("forward: the DOOR is shut by now", b.forward(0, false));
        Due.same("forward: stays behind it", b.ofWalker(0, 0), 15 * 4 + 3);
    }

    /** The numbers DRAWN are 7, 89, 54, 55, 84: the third and the fifth can be divided by 3. */
    private static void promise6Carpet() {
        Bumpward b = new Bumpward();
        b.cell(30, true, false);
        b.cell(24, true, false);
        b.cell(18, true, false);
        b.walker(30, 0, 500, true);
        b.forward(0, true);
        b.forward(0, true);
        Due.same("carpet: two steps", b.ofWalker(0, 0), 18 * 4);
        Due.same("carpet: two DRAWN", b.house(8), 2);
        Due.so("carpet: to SLIP is no BUMP", !b.forward(0, true));
        Due.same("carpet: it stays", b.ofWalker(0, 0), 18 * 4);
        Due.same("carpet: SLIPS", b.ofWalker(0, 12), 1);
        Due.same("carpet: BUMPS", b.ofWalker(0, 11), 0);
        b.edge(18, 0, 1, 0);
        Due.so("carpet: a BUMP", b.forward(0, true));
        Due.same("carpet: with a BUMP none is DRAWN", b.house(8), 3);
        b.edge(18, 0, 0, 0);
        b.forward(0, true);
        Due.same("carpet: goes again", b.ofWalker(0, 0), 12 * 4);
        b.forward(0, true);
        Due.same("carpet: none DRAWN beside it", b.house(8), 4);
        b.cell(6, true, true);
        b.forward(0, true);
        Due.same("carpet: SLIPS on a BARRED one", b.ofWalker(0, 12), 2);
        Due.same("carpet: five DRAWN", b.house(8), 5);
        Due.same("carpet: SLIPS take CHARGE", b.ofWalker(0, 2), 493);
    }

    private static void promise6WhatSureOnesLearn() {
        Bumpward b = new Bumpward();
        b.edge(14, 0, 1, 0);
        b.walker(14, 0, 500, true);
        b.forward(0, false);
        Due.same("forward: the EDGE is WALL", b.map(0, 8, 2), 2);
        Due.same("forward: no other one", b.ofWalker(0, 5) + 10 * b.ofWalker(0, 6), 10);
        Due.so("forward: SURE behind a BUMP", b.ofWalker(0, 3) == 1 && b.may(0, 14 * 4));
        b.edge(14, 0, 0, 0);
        b.forward(0, false);
        Due.same("forward: put another way", b.map(0, 14, 0), 1);
        Due.same("forward: two POSES", b.ofWalker(0, 3), 2);
        Due.so("forward: which ones", b.may(0, 14 * 4) && b.may(0, 8 * 4));
        b.tellPose(0);
        b.turn(0, true, false);
        b.turn(0, true, false);
        b.edge(14, 0, 1, 0);
        Due.so("forward: a BUMP where the MAP has FREE", b.forward(0, false));
        Due.same("forward: put as WALL again", b.map(0, 14, 0), 2);
        Due.same("forward: it is not LOST", b.ofWalker(0, 9), 0);
    }

    private static void promise6WhatOthersLearn() {
        Bumpward b = new Bumpward();
        b.walker(14, 0, 500, false);
        b.forward(0, false);
        Due.same("forward: those not at the border, and one further", b.where(0, 0), (1L << 36) - 1);
        b.forward(0, false);
        Due.same("forward: 144 POSES stay", b.ofWalker(0, 3), 144);
        b.forward(0, false);
        Due.so("forward: the BUMP", b.forward(0, false));
        Due.same("forward: UNKNOWN EDGES ahead stay too", b.ofWalker(0, 3), 144);
        Due.same("forward: one that is not SURE puts nothing", b.ofWalker(0, 5) + b.ofWalker(0, 6), 0);
        Bumpward two = new Bumpward();
        two.walker(1, 1, 500, true);
        two.forward(0, false);
        two.forward(0, false);
        Due.same("forward: of two POSES three", two.where(0, 1), 2L + 4L + 8L);
        Due.same("forward: the second EDGE is UNKNOWN", two.map(0, 2, 1), 0);
        two.edge(3, 1, 1, 0);
        two.forward(0, false);
        Due.same("forward: a BUMP leaves those with UNKNOWN ahead", two.where(0, 1), 4L + 8L);
    }

    /** Walker 0 really is at CELL 6, facing up, and SURE to be at CELL 0. */
    private static Bumpward sureButWrong() {
        Bumpward b = new Bumpward();
        b.cell(30, true, false);
        b.cell(24, true, false);
        b.cell(6, true, false);
        b.walker(6, 0, 500, true);
        b.walker(30, 0, 500, true);
        b.forward(1, true);
        b.forward(1, true);
        b.feel(0, true);
        b.forward(0, true);
        Due.same("wrong: it has SLIPPED", b.ofWalker(0, 12), 1);
        b.edge(0, 2, 1, 0);
        Due.same("wrong: what it feels", b.feel(0, true), 3);
        Due.same("wrong: it is SURE", b.ofWalker(0, 4), 1);
        Due.so("wrong: of another POSE", b.may(0, 0) && b.ofWalker(0, 0) == 24);
        Due.same("wrong: nothing is put by two POSES", b.map(0, 0, 1), 0);
        b.cell(6, false, false);
        return b;
    }

    private static void promise6SureButWrong() {
        Bumpward b = sureButWrong();
        b.turn(0, true, true);
        b.edge(6, 1, 1, 0);
        Due.so("wrong: a BUMP", b.forward(0, true));
        Due.same("wrong: is put where it is SURE to be", b.map(0, 0, 1), 2);
        Due.same("wrong: not where it is", b.map(0, 6, 1), 1);
        Due.same("wrong: SURE still", b.ofWalker(0, 4), 1);
        Due.same("wrong: WRONG is 3", b.ofWalker(0, 8), 3);
        Due.same("wrong: RIGHT is 0", b.ofWalker(0, 7), 0);
        Due.same("wrong: HOME is one step off", b.safety(0, 0), 1);
        Due.same("wrong: charged at HOME, where it really is", b.charge(0, 6), 495);
        Due.same("wrong: SAFE by the CELL of which it is SURE", b.safety(0, 2), 1);
        b.charge(0, 4);
        Due.same("wrong: not SAFE by it", b.safety(0, 2), 0);
    }

    private static void promise6LostByForward() {
        Bumpward b = sureButWrong();
        b.edge(0, 2, 0, 0);
        Due.so("lost: no BUMP at what it takes for the outside", !b.forward(0, true));
        Due.same("lost: counted", b.ofWalker(0, 9), 1);
        Due.same("lost: all POSES anew", b.ofWalker(0, 3), 144);
        Due.same("lost: nothing put", b.ofWalker(0, 5) + b.ofWalker(0, 6), 2);
        Due.same("lost: the other one is not", b.ofWalker(1, 9), 0);
    }

    private static void promise6Barred() {
        Bumpward b = new Bumpward();
        b.cell(15, false, true);
        b.walker(14, 1, 500, true);
        Due.thrown("barred: ahead", b, Due.STATE, () -> b.forward(0, false));
        Due.thrown("barred: by force", b, Due.STATE, () -> b.forward(0, true));
        b.edge(14, 1, 1, 0);
        Due.thrown("barred: whatever the EDGE", b, Due.STATE, () -> b.forward(0, true));
        Due.same("barred: it may turn", b.turn(0, true, false), 1);
        Due.so("barred: another way", !b.forward(0, false));
        b.edge(14, 1, 0, 0);
        b.walker(14, 1, 500, false);
        Due.so("barred: not for one that is not SURE", !b.forward(1, false));
        Due.same("barred: within", b.ofWalker(1, 0), 15 * 4 + 1);
        b.tellPose(1);
        Due.so("barred: out of it", !b.forward(1, false));
        Bumpward border = new Bumpward();
        border.cell(18, false, true);
        border.cell(0, false, true);
        border.walker(17, 1, 500, true);
        Due.so("barred: not over the border", border.forward(0, false));
        Bumpward wrong = sureButWrong();
        wrong.turn(0, true, true);
        wrong.cell(7, false, true);
        Due.so("barred: by the CELL of which it is SURE", !wrong.forward(0, true));
    }

    private static void promise6To9Charge() {
        Bumpward b = new Bumpward();
        b.walker(14, 1, 4, true);
        b.forward(0, true);
        b.turn(0, false, true);
        b.feel(0, true);
        Due.same("charge: the last one", b.listen(0, true), 0);
        Due.same("charge: none left", b.ofWalker(0, 2), 0);
        Due.same("charge: acts", b.ofWalker(0, 10), 4);
        Due.thrown("charge 0: forward", b, Due.STATE, () -> b.forward(0, true));
        Due.thrown("charge 0: turn", b, Due.STATE, () -> b.turn(0, true, true));
        Due.thrown("charge 0: feel", b, Due.STATE, () -> b.feel(0, true));
        Due.thrown("charge 0: listen", b, Due.STATE, () -> b.listen(0, true));
    }

    private static void promise6To9Safe() {
        Bumpward b = new Bumpward();
        b.walker(14, 1, 2, true);
        allRefusedUnlessForced(b, "not SAFE at HOME");
        Bumpward three = new Bumpward();
        three.walker(14, 1, 3, true);
        Due.same("safe at HOME with 3", three.turn(0, true, false), 1);
        allRefusedUnlessForced(three, "2 left");
        Bumpward unsure = new Bumpward();
        unsure.walker(14, 1, 21, false);
        Due.same("safe: not SURE with 21", unsure.feel(0, false), 0);
        allRefusedUnlessForced(unsure, "not SURE with 20");
        Due.so("safe: by force", !unsure.forward(0, true));
        Bumpward far = new Bumpward();
        far.edge(14, 1, 2, 1);
        far.walker(14, 1, 23, true);
        far.forward(0, false);
        far.pass(60);
        far.tellPose(0);
        far.turn(0, true, false);
        far.turn(0, true, true);
        far.forward(0, true);
        Due.same("safe: no RETURN", far.safety(0, 0), -1);
        Due.same("safe: 19 without a RETURN", far.ofWalker(0, 2), 19);
        allRefusedUnlessForced(far, "no RETURN with 19");
    }

    private static void allRefusedUnlessForced(Bumpward b, String when) {
        Due.thrown(when + ": forward", b, Due.STATE, () -> b.forward(0, false));
        Due.thrown(when + ": turn", b, Due.STATE, () -> b.turn(0, true, false));
        Due.thrown(when + ": feel", b, Due.STATE, () -> b.feel(0, false));
        Due.thrown(when + ": listen", b, Due.STATE, () -> b.listen(0, false));
    }

    private static void promise6To9LastMinute() {
        Bumpward b = new Bumpward();
        b.walker(14, 1, 500, true);
        for (int k = 0; k < 4; k++) {
            b.pass(600);
        }
        b.pass(599);
        Due.same("last MINUTE: an act", b.turn(0, true, true), 1);
        Due.same("last MINUTE", b.house(0), 3000);
        Due.thrown("MINUTE 3000: forward", b, Due.STATE, () -> b.forward(0, true));
        Due.thrown("MINUTE 3000: turn", b, Due.STATE, () -> b.turn(0, true, true));
        Due.thrown("MINUTE 3000: feel", b, Due.STATE, () -> b.feel(0, true));
        Due.thrown("MINUTE 3000: listen", b, Due.STATE, () -> b.listen(0, true));
    }

    private static void promise6To9NoSuchWalker() {
        Bumpward b = new Bumpward();
        b.walker(14, 1, 500, true);
        int[] none = {-1, 1, 2, 3, Integer.MIN_VALUE, Integer.MAX_VALUE};
        for (int walker : none) {
            Due.thrown("no such: forward", b, Due.INDEX, () -> b.forward(walker, true));
            Due.thrown("no such: turn", b, Due.INDEX, () -> b.turn(walker, true, true));
            Due.thrown("no such: feel", b, Due.INDEX, () -> b.feel(walker, true));
            Due.thrown("no such: listen", b, Due.INDEX, () -> b.listen(walker, true));
        }
    }

    private static void promise7Turn() {
        Bumpward b = new Bumpward();
        b.walker(14, 0, 500, true);
        b.walker(20, 0, 500, false);
        int[] left = {3, 2, 1, 0};
        for (int k = 0; k < 4; k++) {
            Due.same("turn left", b.turn(0, false, false), 1);
            Due.same("turn left: POSE", b.ofWalker(0, 0), 14 * 4 + left[k]);
            Due.so("turn left: BELIEF", b.may(0, 14 * 4 + left[k]));
        }
        int[] right = {1, 2, 3, 0};
        for (int k = 0; k < 4; k++) {
            Due.same("turn right", b.turn(0, true, false), 1);
            Due.same("turn right: POSE", b.ofWalker(0, 0), 14 * 4 + right[k]);
            Due.so("turn right: BELIEF", b.may(0, 14 * 4 + right[k]));
        }
        Due.same("turn: acts", b.ofWalker(0, 10), 8);
        Due.same("turn: CHARGE", b.ofWalker(0, 2), 492);
        Due.same("turn: MINUTES", b.house(0), 8);
        Due.same("turn: not SURE", b.turn(1, true, false), 144);
        Due.same("turn: nothing put", b.ofWalker(0, 5) + b.ofWalker(0, 6), 0);
        turnOfSeveral(true);
        turnOfSeveral(false);
    }

    private static void turnOfSeveral(boolean isRight) {
        Bumpward b = new Bumpward();
        b.edge(14, 0, 1, 0);
        b.edge(14, 3, 1, 0);
        b.walker(14, 0, 500, false);
        b.feel(0, false);
        long[] before = new long[4];
        for (int facing = 0; facing < 4; facing++) {
            before[facing] = b.where(0, facing);
        }
        Due.same("turn: as many POSES", b.turn(0, isRight, false), b.ofWalker(0, 3));
        for (int facing = 0; facing < 4; facing++) {
            Due.same("turn: each POSE turned", b.where(0, (facing + (isRight ? 1 : 3)) % 4), before[facing]);
        }
    }

    private static void promise8Feel() {
        Bumpward b = new Bumpward();
        b.edge(14, 1, 1, 0);
        b.edge(14, 2, 2, 1);
        b.walker(14, 2, 500, true);
        Due.same("feel: a WALL on the left, the DOOR OPEN", b.feel(0, false), 1);
        Due.same("feel: left", b.map(0, 14, 1), 2);
        Due.same("feel: ahead", b.map(0, 14, 2), 1);
        Due.same("feel: right", b.map(0, 14, 3), 1);
        Due.same("feel: not behind", b.map(0, 14, 0), 0);
        Due.same("feel: acts, CHARGE, MINUTE",
                b.ofWalker(0, 10) * 10000 + b.ofWalker(0, 2) * 10 + b.house(0), 14991);
        Due.same("feel: SURE", b.ofWalker(0, 3), 1);
        b.pass(59);
        b.edge(14, 1, 0, 0);
        b.edge(14, 3, 1, 0);
        Due.same("feel: another way now", b.feel(0, false), 6);
        Due.same("feel: put another way",
                b.map(0, 15, 3) * 100 + b.map(0, 20, 0) * 10 + b.map(0, 13, 1), 122);
        Due.same("feel: not LOST by it", b.ofWalker(0, 9), 0);
        Bumpward all = new Bumpward();
        all.walker(14, 0, 500, false);
        Due.same("feel: one that is not SURE", all.feel(0, false), 0);
        Due.same("feel: those not at the border there", all.ofWalker(0, 3), 80);
        Due.same("feel: facing up", all.where(0, 0), inner(0, 1, 3));
        Due.same("feel: facing right", all.where(0, 1), inner(0, 1, 2));
        Due.same("feel: facing down", all.where(0, 2), inner(1, 2, 3));
        Due.same("feel: facing left", all.where(0, 3), inner(0, 2, 3));
        Due.same("feel: nothing put", all.ofWalker(0, 5) + all.ofWalker(0, 6), 0);
        Bumpward edge = new Bumpward();
        edge.walker(0, 0, 500, true);
        Due.same("feel: in a corner", edge.feel(0, false), 3);
        Due.same("feel: outside EDGES are passed over", edge.ofWalker(0, 5) + 10 * edge.ofWalker(0, 6), 1);
    }

    /** The CELLS with no outside on any of the three SIDES. */
    private static long inner(int one, int two, int three) {
        long set = 0;
        for (int cell = 0; cell < 36; cell++) {
            boolean isIn = true;
            for (int side : new int[] {one, two, three}) {
                int row = cell / 6 + (side == 0 ? -1 : side == 2 ? 1 : 0);
                int column = cell % 6 + (side == 3 ? -1 : side == 1 ? 1 : 0);
                isIn &= row >= 0 && row <= 5 && column >= 0 && column <= 5;
            }
            set |= isIn ? 1L << cell : 0L;
        }
        return set;
    }

    private static void promise8LostByFeel() {
        Bumpward b = sureButWrong();
        b.edge(0, 2, 0, 0);
        Due.same("lost: what it feels", b.feel(0, true), 1);
        Due.same("lost: counted", b.ofWalker(0, 9), 1);
        Due.same("lost: all POSES anew", b.ofWalker(0, 3), 144);
        Due.same("lost: what was put stays", b.map(0, 0, 1), 1);
        Due.same("lost: the outside is a WALL still", b.map(0, 0, 0), 2);
        Due.same("lost: FREE ones", b.ofWalker(0, 5), 3);
        Bumpward several = new Bumpward();
        several.walker(14, 1, 500, true);
        several.feel(0, true);
        several.forward(0, true);
        several.edge(15, 0, 1, 0);
        several.edge(15, 1, 1, 0);
        several.feel(0, true);
        Due.same("lost: SURE by the FEEL", several.where(0, 1), 1L << 15);
        several.turn(0, false, true);
        several.turn(0, false, true);
        several.forward(0, true);
        several.edge(14, 0, 1, 0);
        several.edge(14, 2, 1, 0);
        several.edge(14, 3, 1, 0);
        several.feel(0, true);
        Due.same("lost: of two POSES none", several.ofWalker(0, 9), 1);
        Due.same("lost: 144 anew", several.ofWalker(0, 3), 144);
        Due.same("lost: of two POSES nothing is put", several.map(0, 14, 3), 0);
    }

    private static void promise9Listen() {
        Bumpward b = new Bumpward();
        b.walker(14, 0, 500, true);
        Due.same("listen: alone", b.listen(0, false), 0);
        b.walker(14, 2, 500, false);
        Due.same("listen: in the same CELL", b.listen(0, false), 1);
        b.walker(16, 2, 500, false);
        Due.same("listen: two columns off", b.listen(0, false), 2);
        Due.same("listen: by another one", b.listen(2, false), 2);
        Due.same("listen: BELIEF stays", b.ofWalker(2, 3) + b.ofWalker(0, 3), 145);
        Due.same("listen: MINUTES", b.house(0), 4);
        Due.same("listen: acts and CHARGE", b.ofWalker(0, 10) * 1000 + b.ofWalker(0, 2), 3497);
        int[][] pairs = {{0, 12, 1}, {0, 7, 1}, {0, 18, 0}, {0, 13, 0}, {0, 8, 0}, {5, 6, 0}, {4, 6, 0},
            {35, 23, 1}, {35, 28, 1}, {35, 27, 0}, {12, 0, 1}, {10, 15, 1}, {15, 10, 1}, {3, 0, 0}};
        for (int[] pair : pairs) {
            Bumpward two = new Bumpward();
            two.walker(pair[0], 0, 500, true);
            two.walker(pair[1], 0, 500, true);
            Due.same("listen: " + pair[0] + " and " + pair[1], two.listen(0, false), pair[2]);
        }
    }
}
