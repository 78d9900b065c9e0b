/** What the tests share: each answer is held against the one that is due. */
final class Due {

    /** A call of the face, as a test hands it over. */
    interface Call {
        void make();
    }

    /** A call with a number that is at the edge of what is allowed. */
    interface CallWith {
        void make(Bumpward on, int value);
    }

    /** Makes the same object anew each time, as an object is good for 512 calls. */
    interface Maker {
        Bumpward make();
    }

    static final Class<? extends RuntimeException> INDEX = IndexOutOfBoundsException.class;
    static final Class<? extends RuntimeException> ARGUMENT = IllegalArgumentException.class;
    static final Class<? extends RuntimeException> STATE = IllegalStateException.class;

    private static int checks = 0;
    private static int wrong = 0;

    private Due() {
    }

    static void same(String what, long got, long due) {
        checks++;
        if (got != due) {
            tell(what + " answered " + got + ", due is " + due);
        }
    }

    static void so(String what, boolean isSo) {
        checks++;
        if (!isSo) {
            tell(what + " is not so");
        }
    }

    static void text(String what, String got, String due) {
        checks++;
        if (!due.equals(got)) {
            tell(what + " answered \"" + got + "\", due is \"" + due + "\"");
        }
    }

    /** The call must throw just that class, and leave all that can be asked as it was. */
    static void thrown(String what, Bumpward on, Class<? extends RuntimeException> due, Call call) {
        String before = allOf(on);
        throwsJust(what, due, call);
        so(what + " changes nothing", before.equals(allOf(on)));
    }

    static void allowed(String what, Call call) {
        throwsJust(what, null, call);
    }

    /** A class of null stands for a call that throws nothing. */
    private static void throwsJust(String what, Class<? extends RuntimeException> due, Call call) {
        checks++;
        Class<?> got = null;
        try {
            call.make();
        } catch (RuntimeException thrown) {
            got = thrown.getClass();
        }
        if (got != due) {
            tell(what + " threw " + got + ", due is " + due);
        }
    }

    /** The numbers least and most are allowed; those just beyond them and those far off are not. */
    static void bounds(String what, Maker maker, int least, int most, Class<? extends RuntimeException> due,
            CallWith call) {
        for (int value : new int[] {least, most}) {
            Bumpward on = maker.make();
            allowed(what + " " + value, () -> call.make(on, value));
        }
        for (int value : new int[] {least - 1, most + 1, Integer.MIN_VALUE, Integer.MAX_VALUE}) {
            Bumpward on = maker.make();
            String floor = floorOf(on);
            thrown(what + " " + value, on, due, () -> call.make(on, value));
            text(what + " " + value + ": the floor behind it", floorOf(on), floor);
        }
    }

    /** Kinds and HOURS of all EDGES, which a digest does not tell whole. */
    static String floorOf(Bumpward on) {
        StringBuilder all = new StringBuilder();
        for (int cell = 0; cell < 36; cell++) {
            for (int side = 1; side <= 2; side++) {
                all.append(on.ofEdge(cell, side, 0)).append(':').append(on.ofEdge(cell, side, 2)).append(' ');
            }
        }
        return all.toString();
    }

    /** The digest and the rows of an object, as one text: few calls, as an object is good for 512. */
    static String allOf(Bumpward on) {
        StringBuilder all = new StringBuilder();
        all.append(on.digest());
        for (int row = 0; row < 6; row++) {
            all.append('\n').append(on.row(row));
        }
        return all.toString();
    }

    private static void tell(String line) {
        wrong++;
        System.out.println("  " + line);
    }

    /** Ends the test program. */
    static void end(String test) {
        System.out.println(test + ": " + checks + " checks, " + wrong + " wrong");
        if (wrong != 0 || checks == 0) {
            System.exit(1);
        }
    }
}
