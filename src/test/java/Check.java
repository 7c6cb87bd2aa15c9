/** Counts the answers of a test that are not as due. */
final class Check {
    private int wrong = 0;

    interface Call {
        Object run();
    }

    void due(String call, Object want, Call run) {
        Object got;
        try {
            got = run.run();
        } catch (RuntimeException thrown) {
            got = thrown.getClass();
        }
        if (!want.equals(got)) {
            wrong++;
            System.out.println(call + " answered " + got + ", due is " + want);
        }
    }

    /** As due, for a call that has to leave the lodge as it was. */
    void unchanged(String call, LodgeProofs lodge, Object want, Call run) {
        long before = lodge.digest();
        due(call, want, run);
        due("the digest after " + call, before, lodge::digest);
    }

    void refused(String call, LodgeProofs lodge, Class<?> want, Call run) {
        unchanged(call, lodge, want, run);
    }

    void end(String test) {
        if (wrong > 0) {
            System.out.println(test + ": " + wrong + " answers are not as due");
            System.exit(1);
        }
    }
}
