import java.util.Objects;

/** What the tests share: counts the answers that are not due, and ends with exit code 1 if there was one. */
final class Check {
    private int asked;
    private int wrong;
    /** What the answers at hand stand for; told along with one that is not due. */
    private String about = "";

    void about(String what) {
        about = what.isEmpty() ? "" : what + ": ";
    }

    int asked() {
        return asked;
    }

    void due(String call, Object got, Object want) {
        asked++;
        if (!Objects.equals(got, want)) {
            wrong++;
            System.out.println(about + call + " answered " + got + ", due is " + want);
        }
    }

    void index(String call, Runnable run) {
        refused(call, IndexOutOfBoundsException.class, run);
    }

    void argument(String call, Runnable run) {
        refused(call, IllegalArgumentException.class, run);
    }

    void state(String call, Runnable run) {
        refused(call, IllegalStateException.class, run);
    }

    /** The exception is just of that class: one that the machine throws is another one, or has no written text. */
    private void refused(String call, Class<?> want, Runnable run) {
        Object got = "nothing";
        try {
            run.run();
        } catch (RuntimeException e) {
            got = e.getClass();
        }
        due(call + " throws", got, want);
    }

    void end() {
        System.out.println("  " + asked + " answers, " + wrong + " of them not due");
        if (wrong > 0 || asked == 0) {
            System.exit(1);
        }
    }
}
