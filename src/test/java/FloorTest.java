/** Promises 1 to 4, and what is asked of the floor: 15, 18, 28. */
public final class FloorTest {

    private static final String PLAIN = ". . . . . .";

    private FloorTest() {
    }

    public static void main(String[] args) {
        promise1NewObject();
        promise2Edge();
        promise2EdgeRefused();
        promise3Lay();
        promise3LayRefused();
        promise4Cell();
        promise15OfEdge();
        promise15OfEdgeRefused();
        promise18Row();
        promise28WouldBe();
        Due.end("FloorTest");
    }

    private static void promise1NewObject() {
        Bumpward b = new Bumpward();
        for (int what = 0; what <= 11; what++) {
            Due.same("new: house(" + what + ")", b.house(what), 0);
        }
        for (int row = 0; row < 6; row++) {
            Due.text("new: row(" + row + ")", b.row(row), PLAIN);
        }
        for (int cell = 0; cell < 36; cell++) {
            for (int side = 0; side < 4; side++) {
                Due.same("new: ofEdge(" + cell + ", " + side + ", 0)", b.ofEdge(cell, side, 0),
                        isOuter(cell, side) ? 1 : 0);
            }
        }
        Due.thrown("new: ofWalker(0, 0)", b, Due.INDEX, () -> b.ofWalker(0, 0));
        Due.so("new: isSound()", b.isSound());
        Due.same("new: the next object is not touched by another one", new Bumpward().digest(), b.digest());
    }

    private static boolean isOuter(int cell, int side) {
        return side == 0 && cell < 6 || side == 1 && cell % 6 == 5 || side == 2 && cell >= 30
                || side == 3 && cell % 6 == 0;
    }

    private static void promise2Edge() {
        Bumpward b = new Bumpward();
        Due.same("edge: was FREE", b.edge(7, 1, 2, 5), 0);
        Due.same("edge: a DOOR by its other name", b.ofEdge(8, 3, 0), 2);
        Due.same("edge: its HOURS", b.ofEdge(8, 3, 2), 5);
        Due.same("edge: was a DOOR", b.edge(8, 3, 1, 16777215), 2);
        Due.same("edge: HOURS of a WALL are not its own", b.ofEdge(7, 1, 2), 0);
        Due.same("edge: was a WALL", b.edge(7, 1, 0, 0), 1);
        Due.same("edge: is FREE", b.ofEdge(7, 1, 0), 0);
        Due.same("edge: below", b.edge(7, 2, 1, 0), 0);
        Due.same("edge: above, by its other name", b.ofEdge(13, 0, 0), 1);
        Due.same("edge: another EDGE stays", b.ofEdge(7, 0, 0) + b.ofEdge(7, 1, 0) + b.ofEdge(7, 3, 0), 0);
        Due.same("edge: all HOURS", b.edge(34, 1, 2, 16777215), 0);
        Due.same("edge: no HOUR", b.edge(35, 0, 2, 0), 0);
        Due.same("edge: open ones", b.house(4), 1);
        b.edge(0, 1, 2, 1);
        Due.same("edge: open ones, the first EDGE too", b.house(4), 2);
        Due.same("edge: a DOOR told anew", b.edge(35, 3, 2, 2), 2);
        Due.same("edge: HOURS told anew", b.ofEdge(34, 1, 2), 2);
    }

    private static void promise2EdgeRefused() {
        Bumpward b = new Bumpward();
        b.edge(0, 1, 2, 5);
        Due.thrown("edge: cell -1", b, Due.INDEX, () -> b.edge(-1, 1, 1, 0));
        Due.thrown("edge: cell 36", b, Due.INDEX, () -> b.edge(36, 1, 1, 0));
        Due.thrown("edge: side -1", b, Due.INDEX, () -> b.edge(0, -1, 1, 0));
        Due.thrown("edge: side 4", b, Due.INDEX, () -> b.edge(0, 4, 1, 0));
        Due.thrown("edge: side ahead of kind and hours", b, Due.INDEX, () -> b.edge(0, 4, 3, -1));
        Due.thrown("edge: above the first row", b, Due.ARGUMENT, () -> b.edge(3, 0, 0, 0));
        Due.thrown("edge: right of the last column", b, Due.ARGUMENT, () -> b.edge(5, 1, 1, 0));
        Due.thrown("edge: below the last row", b, Due.ARGUMENT, () -> b.edge(32, 2, 1, 0));
        Due.thrown("edge: left of the first column", b, Due.ARGUMENT, () -> b.edge(6, 3, 1, 0));
        Due.thrown("edge: kind -1", b, Due.ARGUMENT, () -> b.edge(0, 1, -1, 0));
        Due.thrown("edge: kind 3", b, Due.ARGUMENT, () -> b.edge(0, 1, 3, 0));
        for (int kind = 0; kind <= 2; kind++) {
            int told = kind;
            Due.thrown("edge: hours -1", b, Due.ARGUMENT, () -> b.edge(0, 1, told, -1));
            Due.thrown("edge: hours 2^24", b, Due.ARGUMENT, () -> b.edge(0, 1, told, 16777216));
        }
        Due.thrown("edge: far off", b, Due.INDEX, () -> b.edge(Integer.MIN_VALUE, Integer.MAX_VALUE, 0, 0));
        Due.same("edge: HOURS stay behind what was refused", b.ofEdge(0, 1, 2), 5);
    }

    private static void promise3Lay() {
        Bumpward five = new Bumpward();
        Due.same("lay(5)", five.lay(5), 23);
        Due.text("lay(5): row(0)", five.row(0), ".|. .|.|. .");
        Due.text("lay(5): row(1)", five.row(1), ".|. . .|. .");
        Due.same("lay(5): house(2)", five.house(2), 23);
        Due.same("lay(5): nothing is DRAWN", five.house(8), 0);
        for (int seed = 0; seed <= 126; seed += 21) {
            layAsTold(seed);
        }
        Bumpward b = new Bumpward();
        b.edge(0, 1, 2, 16777215);
        b.edge(14, 2, 1, 0);
        b.edge(30, 1, 2, 3);
        Due.same("lay(9): those ahead are gone", b.lay(9), freshLay(9).house(2));
        Due.same("lay(9): DOORS are gone", b.house(3) + b.ofEdge(0, 1, 2) + b.ofEdge(30, 1, 2), 0);
        Due.same("lay(9): the same floor", b.digest(), freshLay(9).digest());
        b.cell(0, true, false);
        b.walker(0, b.ofEdge(0, 1, 1) == 0 ? 1 : 2, 100, true);
        b.forward(0, true);
        Due.same("lay(9): the first one DRAWN is 7 all the same", b.ofWalker(0, 12), 0);
    }

    private static Bumpward freshLay(int seed) {
        Bumpward b = new Bumpward();
        b.lay(seed);
        return b;
    }

    private static void layAsTold(int seed) {
        Bumpward b = new Bumpward();
        int walls = b.lay(seed);
        int number = seed;
        int count = 0;
        for (int cell = 0; cell < 36; cell++) {
            if (cell % 6 != 5) {
                number = (29 * number + 13) % 127;
                count += number < 40 ? 1 : 0;
                Due.same("lay(" + seed + "): right of " + cell, b.ofEdge(cell, 1, 0), number < 40 ? 1 : 0);
            }
            if (cell < 30) {
                number = (29 * number + 13) % 127;
                count += number < 40 ? 1 : 0;
                Due.same("lay(" + seed + "): below " + cell, b.ofEdge(cell, 2, 0), number < 40 ? 1 : 0);
            }
        }
        Due.same("lay(" + seed + ")", walls, count);
    }

    private static void promise3LayRefused() {
        Bumpward b = new Bumpward();
        b.edge(0, 1, 2, 1);
        Due.thrown("lay(-1)", b, Due.ARGUMENT, () -> b.lay(-1));
        Due.thrown("lay(127)", b, Due.ARGUMENT, () -> b.lay(127));
        Due.thrown("lay(MAX)", b, Due.ARGUMENT, () -> b.lay(Integer.MAX_VALUE));
    }

    private static void promise4Cell() {
        Bumpward b = new Bumpward();
        Due.same("cell: CARPET alone", b.cell(0, true, false), 0);
        Due.same("cell: BARRED", b.cell(35, false, true), 1);
        Due.same("cell: both", b.cell(20, true, true), 2);
        Due.same("cell: told twice", b.cell(20, true, true), 2);
        Due.same("cell: CARPETS", b.house(5), 2);
        Due.same("cell: no more of both", b.cell(20, false, false), 1);
        Due.same("cell: CARPETS then", b.house(5), 1);
        Due.same("cell: CARPET no more", b.cell(0, false, true), 2);
        Due.same("cell: no CARPETS", b.house(5), 0);
        Due.same("cell: BARRED ones", b.house(6), 2);
        Due.thrown("cell -1", b, Due.INDEX, () -> b.cell(-1, true, true));
        Due.thrown("cell 36", b, Due.INDEX, () -> b.cell(36, true, true));
        Due.thrown("cell 64", b, Due.INDEX, () -> b.cell(64, true, true));
        Bumpward all = new Bumpward();
        for (int cell = 0; cell < 36; cell++) {
            Due.same("cell: all", all.cell(cell, true, true), cell + 1);
        }
        Due.same("cell: all CARPETS", all.house(5), 36);
    }

    private static void promise15OfEdge() {
        Bumpward b = new Bumpward();
        b.edge(14, 3, 2, 1 | 1 << 23);
        Due.same("ofEdge: a DOOR", b.ofEdge(13, 1, 0), 2);
        Due.same("ofEdge: OPEN at HOUR 0", b.ofEdge(13, 1, 1), 0);
        Due.same("ofEdge: its HOURS", b.ofEdge(13, 1, 2), 1 | 1 << 23);
        b.pass(59);
        Due.same("ofEdge: OPEN at MINUTE 59", b.ofEdge(14, 3, 1), 0);
        b.pass(1);
        Due.same("ofEdge: shut at MINUTE 60", b.ofEdge(14, 3, 1), 1);
        b.pass(600);
        b.pass(600);
        b.pass(119);
        Due.same("ofEdge: shut at MINUTE 1379", b.ofEdge(14, 3, 1), 1);
        b.pass(1);
        Due.same("ofEdge: OPEN at HOUR 23", b.ofEdge(14, 3, 1), 0);
        b.pass(60);
        Due.same("ofEdge: OPEN at HOUR 0 of the next day", b.ofEdge(14, 3, 1), 0);
        b.edge(14, 3, 1, 16777215);
        Due.same("ofEdge: a WALL is as good as one", b.ofEdge(14, 3, 1), 1);
        Due.same("ofEdge: FREE is not", b.ofEdge(14, 1, 1), 0);
        Due.same("ofEdge: outside, its kind", b.ofEdge(30, 2, 0), 1);
        Due.same("ofEdge: outside, as good as a WALL", b.ofEdge(30, 3, 1), 1);
        Due.same("ofEdge: outside, its HOURS", b.ofEdge(5, 1, 2), 0);
    }

    private static void promise15OfEdgeRefused() {
        Bumpward b = new Bumpward();
        Due.thrown("ofEdge: cell -1", b, Due.INDEX, () -> b.ofEdge(-1, 0, 0));
        Due.thrown("ofEdge: cell 36", b, Due.INDEX, () -> b.ofEdge(36, 0, 0));
        Due.thrown("ofEdge: side -1", b, Due.INDEX, () -> b.ofEdge(0, -1, 0));
        Due.thrown("ofEdge: side 4, ahead of what", b, Due.INDEX, () -> b.ofEdge(0, 4, 9));
        Due.thrown("ofEdge: what -1", b, Due.ARGUMENT, () -> b.ofEdge(0, 0, -1));
        Due.thrown("ofEdge: what 3", b, Due.ARGUMENT, () -> b.ofEdge(0, 0, 3));
    }

    private static void promise18Row() {
        Bumpward b = new Bumpward();
        b.edge(30, 1, 1, 0);
        b.edge(31, 1, 2, 1);
        b.edge(32, 1, 2, 0);
        b.edge(28, 2, 1, 0);
        b.cell(31, true, false);
        b.cell(32, false, true);
        b.cell(33, true, true);
        b.cell(35, false, true);
        b.walker(0, 0, 9, false);
        b.walker(35, 0, 9, false);
        b.walker(35, 0, 9, false);
        Due.text("row(5)", b.row(5), ".|c/x/x . 1");
        Due.text("row(0)", b.row(0), "0 . . . . .");
        Due.text("row(4)", b.row(4), PLAIN);
        Due.thrown("row(-1)", b, Due.INDEX, () -> b.row(-1));
        Due.thrown("row(6)", b, Due.INDEX, () -> b.row(6));
    }

    private static void promise28WouldBe() {
        Bumpward b = new Bumpward();
        Due.same("wouldBe: left and ahead in a corner", b.wouldBe(0, 0), 3);
        Due.same("wouldBe: ahead and right in a corner", b.wouldBe(5, 0), 6);
        Due.same("wouldBe: left alone", b.wouldBe(5, 2), 1);
        Due.same("wouldBe: right alone", b.wouldBe(0, 2), 4);
        Due.same("wouldBe: none", b.wouldBe(14, 1), 0);
        b.edge(14, 0, 1, 0);
        b.edge(14, 1, 2, 1);
        Due.same("wouldBe: a WALL on the left, a DOOR ahead", b.wouldBe(14, 1), 1);
        b.pass(60);
        Due.same("wouldBe: the DOOR is shut", b.wouldBe(14, 1), 3);
        Due.same("wouldBe: what lies behind is not felt", b.wouldBe(14, 3), 4);
        Due.same("wouldBe: nothing is counted", b.house(0), 60);
        Due.thrown("wouldBe: cell -1", b, Due.INDEX, () -> b.wouldBe(-1, 0));
        Due.thrown("wouldBe: cell 36, ahead of facing", b, Due.INDEX, () -> b.wouldBe(36, 4));
        Due.thrown("wouldBe: facing -1", b, Due.ARGUMENT, () -> b.wouldBe(0, -1));
        Due.thrown("wouldBe: facing 4", b, Due.ARGUMENT, () -> b.wouldBe(0, 4));
    }
}
