/** Counts what a test finds wrong, tells it, and ends the test. */
final class Check {
    /** A call whose answer or exception is looked at. */
    interface Call {
        Object run();
    }

    private final String name;
    private int looked;
    private int wrong;

    Check(String name) {
        this.name = name;
    }

    void same(String what, long got, long due) {
        told(what, got == due, Long.toString(got), Long.toString(due));
    }

    void sameChar(String what, char got, char due) {
        told(what, got == due, String.valueOf(got), String.valueOf(due));
    }

    void sameDouble(String what, double got, double due) {
        told(what, Double.compare(got, due) == 0, Double.toString(got), Double.toString(due));
    }

    void sameText(String what, String got, String due) {
        told(what, got.equals(due), got, due);
    }

    void holds(String what, boolean got) {
        told(what, got, "false", "true");
    }

    /**
     * The call throws just that exception, and leaves the hall as it was. What the machine throws by itself bears a
     * message, and what the class throws does not.
     */
    void fails(String what, Taperhall hall, Class<? extends RuntimeException> due, Call call) {
        String before = Readout.of(hall);
        String got;
        try {
            got = "the answer " + call.run();
        } catch (RuntimeException e) {
            got = e.getClass().getName() + (e.getMessage() == null ? "" : ": " + e.getMessage());
        }
        told(what, got.equals(due.getName()), got, due.getName());
        sameText(what + " leaves the hall as it was", Readout.of(hall), before);
    }

    void failsIndex(String what, Taperhall hall, Call call) {
        fails(what, hall, IndexOutOfBoundsException.class, call);
    }

    void failsArgument(String what, Taperhall hall, Call call) {
        fails(what, hall, IllegalArgumentException.class, call);
    }

    void failsState(String what, Taperhall hall, Call call) {
        fails(what, hall, IllegalStateException.class, call);
    }

    void failsUnsupported(String what, Taperhall hall, Call call) {
        fails(what, hall, UnsupportedOperationException.class, call);
    }

    void failsElement(String what, Taperhall hall, Call call) {
        fails(what, hall, java.util.NoSuchElementException.class, call);
    }

    void failsArithmetic(String what, Taperhall hall, Call call) {
        fails(what, hall, ArithmeticException.class, call);
    }

    private void told(String what, boolean right, String got, String due) {
        looked++;
        if (!right) {
            wrong++;
            System.out.println(name + ": " + what + " gave " + got + ", due is " + due);
        }
    }

    void end() {
        System.out.println(name + ": " + (looked - wrong) + " of " + looked + " are as due");
        if (wrong > 0) {
            System.exit(1);
        }
    }
}
