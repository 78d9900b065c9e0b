/** Promises 29 and 30, and that what is asked changes nothing. */
public final class SumsTest {

    private SumsTest() {
    }

    public static void main(String[] args) {
        promise29IsSound();
        promise30DigestOfNewObject();
        promise30DigestOfWalkers();
        promise30DigestTellsChanges();
        questionsChangeNothing();
        Due.end("SumsTest");
    }

    private static Bumpward busy() {
        Bumpward b = new Bumpward();
        b.lay(5);
        b.edge(14, 1, 2, 2);
        b.cell(14, true, false);
        b.cell(20, false, true);
        b.walker(14, 0, 100, true);
        b.walker(14, 2, 500, false);
        b.walker(0, 1, 30, true);
        for (int walker = 0; walker < 3; walker++) {
            b.feel(walker, true);
            b.turn(walker, true, true);
            b.forward(walker, true);
            b.feel(walker, true);
        }
        b.pass(55);
        b.call();
        return b;
    }

    private static void promise29IsSound() {
        Bumpward b = new Bumpward();
        Due.so("isSound: new", b.isSound());
        b.walker(14, 0, 500, true);
        b.walker(14, 0, 1, false);
        Due.so("isSound: WALKERS", b.isSound());
        b.feel(1, true);
        Due.so("isSound: without CHARGE", b.isSound());
        for (int k = 0; k < 6; k++) {
            b.forward(0, true);
            b.tellPose(0);
        }
        Due.so("isSound: BUMPS alone", b.isSound());
        b.edge(8, 0, 1, 0);
        Due.so("isSound: WRONG", b.isSound() && b.ofWalker(0, 8) == 1);
        b.walker(0, 0, 1, true);
        Due.so("isSound: the first POSE", b.isSound());
        Due.so("isSound: busy", busy().isSound());
    }

    private static long joined(long d, long... values) {
        for (long value : values) {
            d = d * 31 + value;
        }
        return d;
    }

    private static void promise30DigestOfNewObject() {
        long d = joined(58286, 0, 0, 0, 0, 0, 0, 0, 0, 0, 0, 0, 0);
        for (int cell = 0; cell < 36; cell++) {
            int right = cell % 6 == 5 ? 1 : 0;
            int below = cell >= 30 ? 1 : 0;
            d = joined(d, right, right, below, below);
        }
        Due.same("digest: new", new Bumpward().digest(), joined(d, 1));
    }

    private static void promise30DigestOfWalkers() {
        Bumpward b = busy();
        long d = 58286;
        for (int what = 0; what < 12; what++) {
            d = joined(d, b.house(what));
        }
        for (int cell = 0; cell < 36; cell++) {
            d = joined(d, b.ofEdge(cell, 1, 0), b.ofEdge(cell, 1, 1), b.ofEdge(cell, 2, 0), b.ofEdge(cell, 2, 1));
        }
        for (int walker = 0; walker < 3; walker++) {
            d = joinedWalker(d, b, walker);
        }
        Due.same("digest: busy", b.digest(), joined(d, b.isSound() ? 1 : 0));
    }

    private static long joinedWalker(long before, Bumpward b, int walker) {
        long d = before;
        for (int what = 0; what < 13; what++) {
            d = joined(d, b.ofWalker(walker, what));
        }
        d = joined(d, b.where(walker, 0), b.where(walker, 1), b.where(walker, 2), b.where(walker, 3));
        d = joined(d, b.safety(walker, 0), b.safety(walker, 1), b.safety(walker, 2), b.safety(walker, 3));
        d = joined(d, b.worst(walker, 0), b.worst(walker, 1), b.worst(walker, 2), b.worst(walker, 3));
        d = joined(d, b.best(walker), (long) (64 * b.doubt(walker)));
        for (int cell = 0; cell < 36; cell++) {
            d = joined(d, b.map(walker, cell, 1), b.map(walker, cell, 2));
        }
        return d;
    }

    private static void promise30DigestTellsChanges() {
        Bumpward b = busy();
        Due.same("digest: of the same calls", busy().digest(), b.digest());
        Due.same("digest: asked twice", b.digest(), b.digest());
        long before = b.digest();
        b.call();
        Due.so("digest: behind a call", b.digest() != before);
    }

    private static void questionsChangeNothing() {
        Bumpward b = busy();
        String before = Due.allOf(b);
        for (int walker = 0; walker < 3; walker++) {
            for (int k = 0; k < 4; k++) {
                b.where(walker, k);
                b.worst(walker, k);
                b.wouldFeel(walker, k);
                b.safety(walker, k);
                b.ofWalker(walker, k + 5);
                b.may(walker, k);
                b.map(walker, k, k);
                b.way(walker, k, 35);
                b.wouldBe(k, k);
                b.ofEdge(k, k, 1);
                b.house(k);
            }
            b.best(walker);
            b.doubt(walker);
        }
        b.isSound();
        Due.text("what is asked changes nothing", Due.allOf(b), before);
    }
}
