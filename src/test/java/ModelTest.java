import java.util.Random;

/**
 * All promises: long runs of calls, the same ones each time, each answer held against the Model. Some
 * runs are told little and act much; others tell the floor anew all the time.
 */
public final class ModelTest {

    private static final int RUNS = 400;
    private static final int MOST_CALLS = 512;
    private static final int KINDS = 28;
    private static final int[] OPENING = {0, 0, 1, 2, 2, 2, 2, 2, 3, 3, 3};

    private final Random random;
    private final Bumpward real = new Bumpward();
    private final Model model = new Model();
    private final boolean isWild;
    private final boolean isCrowded;
    private String text = "";
    private int made;

    private ModelTest(int run) {
        random = new Random(run);
        isWild = run % 4 == 0;
        isCrowded = run % 2 == 1;
    }

    public static void main(String[] args) {
        for (int run = 0; run < RUNS; run++) {
            new ModelTest(run).go(run);
        }
        Due.end("ModelTest");
    }

    private void go(int run) {
        for (int call = 0; made < MOST_CALLS - 2; call++) {
            int kind = call < OPENING.length ? OPENING[call] : next();
            int[] a = arguments(kind);
            String due = answer(false, kind, a);
            String got = answer(true, kind, a);
            Due.text("run " + run + ", call " + call + ": " + text, got, due);
            if (!got.equals(due)) {
                return;
            }
        }
        Due.same("run " + run + ": digest", real.digest(), model.digest());
    }

    /** Acts mostly, so that much comes to be known. */
    private int next() {
        int roll = random.nextInt(100);
        if (roll < 50) {
            return 4 + random.nextInt(4);
        }
        if (roll < 54) {
            return 27;
        }
        if (roll < 60) {
            return 10;
        }
        if (roll < 64) {
            return 9;
        }
        int kind = random.nextInt(KINDS);
        boolean isFloor = kind < 3;
        return isFloor && !isWild && random.nextInt(4) != 0 ? 6 : kind;
    }

    /** A number of 0 to most, now and then one beyond. */
    private int number(int most) {
        int roll = random.nextInt(isWild ? 60 : 200);
        if (roll == 0) {
            return -1;
        }
        return roll == 1 ? most + 1 : random.nextInt(most + 1);
    }

    /** In crowded runs WALKERS and CARPETS are near one another, so that they SLIP and MEET. */
    private int cellNumber() {
        return isCrowded ? 14 + random.nextInt(2) + 6 * random.nextInt(2) : number(35);
    }

    private int walkerNumber() {
        return random.nextInt(isWild ? 40 : 100) == 0 ? random.nextInt(6) - 2 : random.nextInt(3);
    }

    private int flag(int of) {
        return random.nextInt(of) == 0 ? 1 : 0;
    }

    private int[] arguments(int kind) {
        switch (kind) {
            case 0:
                return new int[] {number(35), number(3), number(2), number(16777215)};
            case 1:
                return new int[] {isWild || random.nextInt(3) == 0 ? number(126) : 127};
            case 2:
                return new int[] {cellNumber(), flag(2), flag(8)};
            case 3:
                return new int[] {cellNumber(), number(3), random.nextInt(3) == 0 ? number(40) : number(500), flag(2)};
            case 4:
            case 6:
            case 7:
                return new int[] {walkerNumber(), flag(2)};
            case 5:
                return new int[] {walkerNumber(), flag(2), flag(2)};
            case 8:
                return new int[] {walkerNumber(), random.nextInt(3) == 0 ? number(30) : number(500)};
            case 9:
                return new int[] {walkerNumber(), walkerNumber()};
            case 10:
                return new int[] {walkerNumber()};
            case 11:
                return new int[] {random.nextInt(4) == 0 ? number(600) : number(40)};
            case 13:
                return new int[] {number(35), number(3), number(2)};
            case 14:
                return new int[] {walkerNumber(), number(12)};
            case 15:
                return new int[] {number(11)};
            case 16:
                return new int[] {number(5)};
            case 17:
                return new int[] {walkerNumber(), number(35), number(3)};
            case 18:
                return new int[] {walkerNumber(), number(143)};
            case 19:
            case 21:
            case 23:
                return new int[] {walkerNumber(), number(3)};
            case 20:
                return new int[] {walkerNumber(), number(35), number(35)};
            case 25:
                return new int[] {walkerNumber(), number(7)};
            case 26:
                return new int[] {number(35), number(3)};
            default:
                return new int[] {walkerNumber()};
        }
    }

    /** The answer as a text, or the name of what is thrown. */
    private String answer(boolean isClass, int kind, int[] a) {
        try {
            return isClass ? ofClass(kind, a) : ofModel(kind, a);
        } catch (Model.Thrown thrown) {
            return thrown.getMessage();
        } catch (RuntimeException thrown) {
            return thrown.getClass().getSimpleName();
        }
    }

    private String ofModel(int kind, int[] a) {
        Model m = model;
        text = kind + java.util.Arrays.toString(a);
        switch (kind) {
            case 0: return "" + m.edge(a[0], a[1], a[2], a[3]);
            case 1: return "" + m.lay(a[0]);
            case 2: return "" + m.cell(a[0], a[1] == 1, a[2] == 1);
            case 3: return "" + m.walker(a[0], a[1], a[2], a[3] == 1);
            case 4: return "" + m.forward(a[0], a[1] == 1);
            case 5: return "" + m.turn(a[0], a[1] == 1, a[2] == 1);
            case 6: return "" + m.feel(a[0], a[1] == 1);
            case 7: return "" + m.listen(a[0], a[1] == 1);
            case 8: return "" + m.charge(a[0], a[1]);
            case 9: return "" + m.meet(a[0], a[1]);
            case 10: return "" + m.tellPose(a[0]);
            case 11: return "" + m.pass(a[0]);
            case 12: return "" + m.call();
            case 13: return "" + m.ofEdge(a[0], a[1], a[2]);
            case 14: return "" + m.ofWalker(a[0], a[1]);
            case 15: return "" + m.house(a[0]);
            case 16: return m.row(a[0]);
            case 17: return "" + m.map(a[0], a[1], a[2]);
            case 18: return "" + m.may(a[0], a[1]);
            case 19: return "" + m.where(a[0], a[1]);
            case 20: return "" + m.way(a[0], a[1], a[2]);
            case 21: return "" + m.safety(a[0], a[1]);
            case 22: return "" + m.doubt(a[0]);
            case 23: return "" + m.worst(a[0], a[1]);
            case 24: return "" + m.best(a[0]);
            case 25: return "" + m.wouldFeel(a[0], a[1]);
            case 26: return "" + m.wouldBe(a[0], a[1]);
            default: return m.digest() + " " + m.isSound();
        }
    }

    private String ofClass(int kind, int[] a) {
        Bumpward b = real;
        made += kind == KINDS - 1 ? 2 : 1;
        switch (kind) {
            case 0: return "" + b.edge(a[0], a[1], a[2], a[3]);
            case 1: return "" + b.lay(a[0]);
            case 2: return "" + b.cell(a[0], a[1] == 1, a[2] == 1);
            case 3: return "" + b.walker(a[0], a[1], a[2], a[3] == 1);
            case 4: return "" + (b.forward(a[0], a[1] == 1) ? 1 : 0);
            case 5: return "" + b.turn(a[0], a[1] == 1, a[2] == 1);
            case 6: return "" + b.feel(a[0], a[1] == 1);
            case 7: return "" + b.listen(a[0], a[1] == 1);
            case 8: return "" + b.charge(a[0], a[1]);
            case 9: return "" + b.meet(a[0], a[1]);
            case 10: return "" + b.tellPose(a[0]);
            case 11: return "" + b.pass(a[0]);
            case 12: return "" + b.call();
            case 13: return "" + b.ofEdge(a[0], a[1], a[2]);
            case 14: return "" + b.ofWalker(a[0], a[1]);
            case 15: return "" + b.house(a[0]);
            case 16: return b.row(a[0]);
            case 17: return "" + b.map(a[0], a[1], a[2]);
            case 18: return "" + (b.may(a[0], a[1]) ? 1 : 0);
            case 19: return "" + b.where(a[0], a[1]);
            case 20: return "" + b.way(a[0], a[1], a[2]);
            case 21: return "" + b.safety(a[0], a[1]);
            case 22: return "" + b.doubt(a[0]);
            case 23: return "" + b.worst(a[0], a[1]);
            case 24: return "" + b.best(a[0]);
            case 25: return "" + b.wouldFeel(a[0], a[1]);
            case 26: return "" + b.wouldBe(a[0], a[1]);
            default: return b.digest() + " " + (b.isSound() ? 1 : 0);
        }
    }
}
