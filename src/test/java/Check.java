/** Counts the answers that are due, and prints those that are not. */
final class Check {
    interface Call {
        long answer();
    }

    private final String name;
    private int passed;
    private int failed;

    Check(String name) {
        this.name = name;
    }

    void due(String what, long got, long want) {
        if (got == want) {
            passed++;
        } else {
            failed++;
            System.out.println(name + ": " + what + " answered " + got + ", due is " + want);
        }
    }

    void isTrue(String what, boolean holds) {
        if (holds) {
            passed++;
        } else {
            failed++;
            System.out.println(name + ": " + what + " does not hold");
        }
    }

    /** The call throws just this exception; that it changes nothing is seen by Edges.refused. */
    private void throwing(String what, Class<? extends RuntimeException> due, Call call) {
        String got = outcome(call);
        isTrue(what + " throws " + due.getName() + " (it is " + got + ")", got.equals(due.getName()));
    }

    void outOfBounds(String what, Call call) {
        throwing(what, IndexOutOfBoundsException.class, call);
    }

    void badArgument(String what, Call call) {
        throwing(what, IllegalArgumentException.class, call);
    }

    void badState(String what, Call call) {
        throwing(what, IllegalStateException.class, call);
    }

    static String outcome(Call call) {
        try {
            return "= " + call.answer();
        } catch (RuntimeException e) {
            return e.getClass().getName();
        }
    }

    void end() {
        System.out.println(name + ": " + passed + " answers are as due, " + failed + " are not");
        if (failed != 0) {
            System.exit(1);
        }
    }
}
