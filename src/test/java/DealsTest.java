/** Promises 10 to 14, and the counts of 16 and 17. */
public final class DealsTest {

    private DealsTest() {
    }

    public static void main(String[] args) {
        promise10Charge();
        promise11TellPose();
        promise12Meet();
        promise12MeetLearns();
        promise12DisputeBelow();
        promise12MeetRefused();
        promise13Pass();
        promise14Call();
        promise16OfWalker();
        promise17House();
        Due.end("DealsTest");
    }

    private static void promise10Charge() {
        Bumpward b = new Bumpward();
        b.walker(14, 1, 30, true);
        Due.same("charge: that before", b.charge(0, 500), 30);
        Due.same("charge: from now on", b.ofWalker(0, 2), 500);
        Due.same("charge: less too", b.charge(0, 1), 500);
        b.turn(0, true, true);
        Due.same("charge: of none left", b.charge(0, 40), 0);
        Due.same("charge: takes no MINUTE, is no act", b.house(0) * 10 + b.ofWalker(0, 10), 11);
        Due.thrown("charge: 0", b, Due.ARGUMENT, () -> b.charge(0, 0));
        Due.thrown("charge: 501", b, Due.ARGUMENT, () -> b.charge(0, 501));
        Due.thrown("charge: no such WALKER", b, Due.INDEX, () -> b.charge(1, 0));
        Due.thrown("charge: WALKER -1", b, Due.INDEX, () -> b.charge(-1, 5));
        b.forward(0, true);
        Due.thrown("charge: not in its HOME", b, Due.STATE, () -> b.charge(0, 5));
        Due.thrown("charge: not in its HOME, 501", b, Due.ARGUMENT, () -> b.charge(0, 501));
    }

    private static void promise11TellPose() {
        Bumpward b = new Bumpward();
        b.walker(14, 1, 30, false);
        Due.same("tellPose: had all", b.tellPose(0), 144);
        Due.same("tellPose: SURE", b.ofWalker(0, 4), 1);
        Due.so("tellPose: of its POSE", b.may(0, 57));
        Due.same("tellPose: had one", b.tellPose(0), 1);
        b.forward(0, true);
        Due.same("tellPose: had two", b.tellPose(0), 2);
        Due.so("tellPose: where it is now", b.may(0, 61) && !b.may(0, 57));
        Due.same("tellPose: takes no MINUTE, no CHARGE", b.house(0) * 100 + b.ofWalker(0, 2), 129);
        Due.thrown("tellPose: no such WALKER", b, Due.INDEX, () -> b.tellPose(1));
        Due.thrown("tellPose: WALKER -1", b, Due.INDEX, () -> b.tellPose(-1));
    }

    private static void promise12Meet() {
        Bumpward b = new Bumpward();
        b.walker(14, 0, 100, true);
        b.walker(14, 2, 100, true);
        Due.same("meet: nothing known", b.meet(0, 1), 0);
        b.feel(0, false);
        b.edge(14, 1, 1, 0);
        b.feel(1, false);
        Due.same("meet: one EDGE each", b.meet(1, 0), 2);
        Due.same("meet: learned above", b.map(1, 8, 2), 1);
        Due.same("meet: learned below", b.map(0, 20, 0), 1);
        Due.same("meet: stays FREE", b.map(0, 14, 1), 1);
        Due.same("meet: stays WALL", b.map(1, 15, 3), 2);
        Due.same("meet: meetings", b.house(9), 2);
        Due.same("meet: DISPUTES", b.house(10), 1);
        Due.same("meet: again", b.meet(0, 1), 0);
        Due.same("meet: DISPUTES again", b.house(10), 2);
        Due.same("meet: takes no MINUTE, is no act", b.house(0) * 10 + b.ofWalker(0, 10), 21);
        Due.same("meet: BELIEFS stay", b.ofWalker(0, 3) + b.ofWalker(1, 3), 2);
    }

    private static void promise12MeetLearns() {
        Bumpward b = new Bumpward();
        b.edge(14, 3, 1, 0);
        b.edge(8, 2, 1, 0);
        b.walker(14, 0, 100, true);
        b.walker(14, 2, 100, true);
        b.feel(0, false);
        Due.same("meet: the other way", b.meet(0, 1), 3);
        for (int cell = 0; cell < 36; cell++) {
            for (int side = 0; side < 4; side++) {
                Due.same("meet: the same MAP at " + cell + ", " + side, b.map(1, cell, side), b.map(0, cell, side));
            }
        }
        Due.same("meet: FREE and WALL", b.ofWalker(1, 5) * 10 + b.ofWalker(1, 6), 12);
    }

    private static void promise12DisputeBelow() {
        Bumpward b = new Bumpward();
        b.walker(14, 2, 100, true);
        b.walker(14, 2, 100, true);
        b.edge(14, 2, 1, 0);
        b.feel(0, false);
        b.edge(14, 2, 0, 0);
        b.feel(1, false);
        Due.same("meet: all known to both", b.meet(0, 1), 0);
        Due.same("meet: one DISPUTE below", b.house(10), 1);
        Due.same("meet: the first one keeps its WALL", b.map(0, 14, 2), 2);
        Due.same("meet: the second one keeps FREE", b.map(1, 14, 2), 1);
    }

    private static void promise12MeetRefused() {
        Bumpward b = new Bumpward();
        b.walker(14, 1, 100, true);
        b.walker(15, 0, 100, true);
        Due.thrown("meet: no such first", b, Due.INDEX, () -> b.meet(2, 0));
        Due.thrown("meet: no such second", b, Due.INDEX, () -> b.meet(0, 2));
        Due.thrown("meet: -1", b, Due.INDEX, () -> b.meet(-1, -1));
        Due.thrown("meet: the same, none", b, Due.INDEX, () -> b.meet(3, 3));
        Due.thrown("meet: the same", b, Due.ARGUMENT, () -> b.meet(0, 0));
        Due.thrown("meet: not in one CELL", b, Due.STATE, () -> b.meet(0, 1));
        b.forward(0, false);
        Due.thrown("meet: the first not SURE", b, Due.STATE, () -> b.meet(0, 1));
        Due.thrown("meet: the second not SURE", b, Due.STATE, () -> b.meet(1, 0));
        Due.thrown("meet: the same, not SURE", b, Due.ARGUMENT, () -> b.meet(0, 0));
        Due.same("meet: none yet", b.house(9), 0);
        b.tellPose(0);
        Due.same("meet: SURE, in one CELL", b.meet(0, 1), 1);
    }

    private static void promise13Pass() {
        Bumpward b = new Bumpward();
        Due.same("pass(1)", b.pass(1), 1);
        Due.same("pass(600)", b.pass(600), 601);
        Due.thrown("pass(0)", b, Due.ARGUMENT, () -> b.pass(0));
        Due.thrown("pass(-1)", b, Due.ARGUMENT, () -> b.pass(-1));
        Due.thrown("pass(601)", b, Due.ARGUMENT, () -> b.pass(601));
        Due.thrown("pass(MAX)", b, Due.ARGUMENT, () -> b.pass(Integer.MAX_VALUE));
        b.pass(600);
        b.pass(600);
        b.pass(600);
        Due.thrown("pass: above 3000", b, Due.STATE, () -> b.pass(600));
        Due.same("pass: up to 3000", b.pass(599), 3000);
        Due.thrown("pass: at 3000", b, Due.STATE, () -> b.pass(1));
        Due.thrown("pass: at 3000, 0", b, Due.ARGUMENT, () -> b.pass(0));
        Due.same("pass: the last HOUR", b.house(1), 2);
    }

    private static void promise14Call() {
        Bumpward b = new Bumpward();
        Due.same("call", b.call(), 1);
        Due.same("call again", b.call(), 2);
        b.walker(14, 0, 1, true);
        Due.thrown("call: a refused act", b, Due.STATE, () -> b.feel(0, false));
        Due.same("call: refused acts are not counted", b.house(11), 2);
        Due.same("call once more", b.call(), 3);
    }

    private static void promise16OfWalker() {
        Bumpward b = new Bumpward();
        b.edge(14, 0, 1, 0);
        b.edge(14, 1, 2, 2);
        b.walker(14, 0, 100, true);
        b.feel(0, false);
        b.forward(0, false);
        b.turn(0, false, false);
        b.forward(0, false);
        int[] due = {13 * 4 + 3, 14, 96, 2, 0, 1, 2, 3, 0, 0, 4, 1, 0};
        for (int what = 0; what <= 12; what++) {
            Due.same("ofWalker(0, " + what + ")", b.ofWalker(0, what), due[what]);
        }
        b.pass(60);
        Due.same("ofWalker: RIGHT as it is now", b.ofWalker(0, 7), 2);
        Due.same("ofWalker: WRONG as it is now", b.ofWalker(0, 8), 1);
        b.edge(14, 0, 0, 0);
        Due.same("ofWalker: RIGHT less one", b.ofWalker(0, 7), 1);
        Due.same("ofWalker: WRONG one more", b.ofWalker(0, 8), 2);
        Due.thrown("ofWalker: no such WALKER", b, Due.INDEX, () -> b.ofWalker(1, 0));
        Due.thrown("ofWalker: WALKER -1, ahead of what", b, Due.INDEX, () -> b.ofWalker(-1, 13));
        Due.thrown("ofWalker: what -1", b, Due.ARGUMENT, () -> b.ofWalker(0, -1));
        Due.thrown("ofWalker: what 13", b, Due.ARGUMENT, () -> b.ofWalker(0, 13));
    }

    private static void promise17House() {
        Bumpward b = new Bumpward();
        b.edge(14, 0, 1, 0);
        b.edge(14, 1, 2, 2);
        b.edge(15, 1, 2, 3);
        b.edge(16, 1, 2, 1);
        b.edge(20, 1, 1, 0);
        b.cell(0, true, false);
        b.cell(1, true, true);
        b.cell(2, false, true);
        b.cell(3, true, false);
        b.walker(0, 2, 100, true);
        b.walker(0, 2, 100, true);
        b.meet(0, 1);
        b.forward(0, true);
        b.call();
        b.pass(61);
        int[] due = {62, 1, 2, 3, 2, 3, 2, 2, 1, 1, 0, 1};
        for (int what = 0; what <= 11; what++) {
            Due.same("house(" + what + ")", b.house(what), due[what]);
        }
        b.pass(600);
        b.pass(600);
        b.pass(177);
        Due.same("house: the last MINUTE of the day", b.house(1), 23);
        b.pass(1);
        Due.same("house: the next day", b.house(1), 0);
        Due.thrown("house(-1)", b, Due.ARGUMENT, () -> b.house(-1));
        Due.thrown("house(12)", b, Due.ARGUMENT, () -> b.house(12));
    }
}
