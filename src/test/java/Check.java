import java.util.Arrays;

/** Counts what is not as due, and ends the test with exit code 1 if there was anything. */
final class Check {
    interface Call {
        void run();
    }

    private final String test;
    private String sentence = "";
    private int checks;
    private int wrong;

    Check(String test) {
        this.test = test;
    }

    /** A test of one sentence of the document, whose words are told with all that is not as due. */
    void sentence(String words, Call it) {
        sentence = "'" + words + "': ";
        checks++;
        try {
            it.run();
        } catch (RuntimeException e) {
            tell("threw " + e);
        }
        sentence = "";
    }

    void due(String call, long got, long want) {
        checks++;
        if (got != want) {
            tell(call + " answered " + got + ", due is " + want);
        }
    }

    void due(String call, int[] got, int... want) {
        checks++;
        if (!Arrays.equals(got, want)) {
            tell(call + " answered " + Arrays.toString(got) + ", due is " + Arrays.toString(want));
        }
    }

    void argument(String call, Call it) {
        thrown(call, IllegalArgumentException.class, it);
    }

    void state(String call, Call it) {
        thrown(call, IllegalStateException.class, it);
    }

    void index(String call, Call it) {
        thrown(call, IndexOutOfBoundsException.class, it);
    }

    // The machine's own exceptions are classes below these, so the class must be the very one.
    private void thrown(String call, Class<?> want, Call it) {
        checks++;
        try {
            it.run();
            tell(call + " did not throw " + want.getSimpleName());
        } catch (RuntimeException e) {
            if (e.getClass() != want) {
                tell(call + " threw " + e + ", due is " + want.getSimpleName());
            }
        }
    }

    private void tell(String what) {
        wrong++;
        System.out.println(test + ": " + sentence + what);
    }

    void finish() {
        System.out.println(test + ": " + checks + " checks, " + wrong + " wrong");
        if (wrong != 0) {
            System.exit(1);
        }
    }
}
