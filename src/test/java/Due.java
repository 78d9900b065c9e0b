/** What the tests share: each answer is held against the one that is due. */
final class Due {

    /** A call of the face, as a test hands it over. */
    interface Call {
        void make();
    }

    static final Class<? extends RuntimeException> INDEX = IndexOutOfBoundsException.class;
    static final Class<? extends RuntimeException> ARGUMENT = IllegalArgumentException.class;
    static final Class<? extends RuntimeException> STATE = IllegalStateException.class;

    private static int checks = 0;
    private static int wrong = 0;

    private Due() {
    }

    static void same(String what, long got, long due) {
        checks++;
        if (got != due) {
            tell(what + " answered " + got + ", due is " + due);
        }
    }

    static void so(String what, boolean isSo) {
        checks++;
        if (!isSo) {
            tell(what + " is not so");
        }
    }

    static void text(String what, String got, String due) {
        checks++;
        if (!due.equals(got)) {
            tell(what + " answered \"" + got + "\", due is \"" + due + "\"");
        }
    }

    /** The call must throw just that class, and leave all that can be asked as it was. */
    static void thrown(String what, Bumpward on, Class<? extends RuntimeException> due, Call call) {
        checks++;
        String before = allOf(on);
        Class<?> got = null;
        try {
            call.make();
        } catch (RuntimeException thrown) {
            got = thrown.getClass();
        }
        if (got != due) {
            tell(what + " threw " + got + ", due is " + due);
        }
        if (!before.equals(allOf(on))) {
            tell(what + " changed something");
        }
    }

    /** The digest and the rows of an object, as one text: few calls, as an object is good for 512. */
    static String allOf(Bumpward on) {
        StringBuilder all = new StringBuilder();
        all.append(on.digest());
        for (int row = 0; row < 6; row++) {
            all.append('\n').append(on.row(row));
        }
        return all.toString();
    }

    private static void tell(String line) {
        wrong++;
        System.out.println("  " + line);
    }

    /** Ends the test program. */
    static void end(String test) {
        System.out.println(test + ": " + checks + " checks, " + wrong + " wrong");
        if (wrong != 0 || checks == 0) {
            System.exit(1);
        }
    }
}
