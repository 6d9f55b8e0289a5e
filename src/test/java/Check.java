/** Counts what was looked at, and tells what is not as it is due. */
final class Check {
    interface Call {
        long answer();
    }

    private final String name;
    private String about = "";
    private int right = 0;
    private int wrong = 0;

    Check(String name) {
        this.name = name;
    }

    /** What the next ones are about: told with each that is not as it is due. */
    void about(String words) {
        about = words.isEmpty() ? "" : " " + words;
    }

    int looks() {
        return right + wrong;
    }

    void text(String what, String got, String due) {
        if (got.equals(due)) {
            right++;
        } else {
            wrong++;
            System.out.println(name + about + ": " + what + " gave " + got + ", due is " + due);
        }
    }

    void same(String what, long got, long due) {
        text(what, Long.toString(got), Long.toString(due));
    }

    void yes(String what, boolean got) {
        same(what, got ? 1 : 0, 1);
    }

    void no(String what, boolean got) {
        same(what, got ? 1 : 0, 0);
    }

    /** The class must be just the one named: the machine's own ones are often below it. */
    void refused(String what, Class<? extends RuntimeException> due, Call call) {
        String got;
        try {
            got = "the answer " + call.answer();
        } catch (RuntimeException e) {
            got = e.getClass().getSimpleName();
        }
        text(what, got, due.getSimpleName());
    }

    void noIndex(String what, Call call) {
        refused(what, IndexOutOfBoundsException.class, call);
    }

    void noState(String what, Call call) {
        refused(what, IllegalStateException.class, call);
    }

    void noArgument(String what, Call call) {
        refused(what, IllegalArgumentException.class, call);
    }

    void end() {
        System.out.println(name + ": " + right + " answers as due, " + wrong + " not");
        if (wrong != 0) {
            System.exit(1);
        }
    }
}
