/** Counts the answers of a test that are not as due. */
final class Check {
    static final Class<?> INDEX = IndexOutOfBoundsException.class;
    static final Class<?> ARGUMENT = IllegalArgumentException.class;
    static final Class<?> STATE = IllegalStateException.class;

    private int wrong = 0;
    private String heading = "";

    interface Call {
        Object run();
    }

    /** What the calls from now on are about; it is told together with a wrong answer. */
    void heading(String about) {
        heading = about.isEmpty() ? "" : about + " | ";
    }

    static Object answer(Call run) {
        try {
            return run.run();
        } catch (RuntimeException thrown) {
            return thrown.getClass();
        }
    }

    void due(String call, Object want, Call run) {
        Object got = answer(run);
        if (!want.equals(got)) {
            wrong++;
            System.out.println(heading + call + " answered " + got + ", due is " + want);
        }
    }

    /** As due, for a call that has to leave the lodge as it was. */
    void unchanged(String call, LodgeProofs lodge, Object want, Call run) {
        long before = lodge.digest();
        due(call, want, run);
        due("the digest after " + call, before, lodge::digest);
    }

    void refused(String call, LodgeProofs lodge, Class<?> want, Call run) {
        unchanged(call, lodge, want, run);
    }

    void end(String test) {
        if (wrong > 0) {
            System.out.println(test + ": " + wrong + " answers are not as due");
            System.exit(1);
        }
    }
}
