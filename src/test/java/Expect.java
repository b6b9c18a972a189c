/** Counts the answers that are not as due, and ends the test with exit code 1 if there was one. */
final class Expect {
    interface Call {
        long make();
    }

    private int wrong = 0;
    private int asked = 0;

    void due(String what, long want, long got) {
        asked++;
        if (want != got) {
            wrong++;
            System.out.println(what + " answered " + got + ", due is " + want);
        }
    }

    void due(String what, boolean want, boolean got) {
        due(what, want ? 1 : 0, got ? 1 : 0);
    }

    void bounds(String what, Call call) {
        thrown(what, IndexOutOfBoundsException.class, call);
    }

    void argument(String what, Call call) {
        thrown(what, IllegalArgumentException.class, call);
    }

    void state(String what, Call call) {
        thrown(what, IllegalStateException.class, call);
    }

    private void thrown(String what, Class<? extends RuntimeException> want, Call call) {
        asked++;
        try {
            long got = call.make();
            wrong++;
            System.out.println(what + " answered " + got + ", due is " + want.getSimpleName());
        } catch (RuntimeException e) {
            if (e.getClass() != want) {
                wrong++;
                System.out.println(what + " threw " + e + ", due is " + want.getSimpleName());
            }
        }
    }

    void end() {
        System.out.println(wrong == 0 ? "all " + asked + " answers are as due" : wrong + " of " + asked + " answers are not as due");
        if (wrong != 0 || asked == 0) {
            System.exit(1);
        }
    }
}
