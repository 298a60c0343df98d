/** What the tests of the project have in common: answers are compared, wrong ones printed and counted. */
final class Checks {
    interface Call {
        void make();
    }

    private static int made = 0;
    private static int wrong = 0;

    private Checks() {
    }

    static void due(String what, Object got, Object want) {
        made++;
        if (!got.equals(want)) {
            wrong++;
            System.out.println(what + " answered " + got + ", due is " + want);
        }
    }

    static void missing(String what, Call call) {
        thrown(what, call, java.util.NoSuchElementException.class);
    }

    static void argument(String what, Call call) {
        thrown(what, call, IllegalArgumentException.class);
    }

    static void state(String what, Call call) {
        thrown(what, call, IllegalStateException.class);
    }

    static void thrown(String what, Call call, Class<?> want) {
        String got = "nothing thrown";
        try {
            call.make();
        } catch (RuntimeException e) {
            got = e.getClass().getName();
        }
        due(what, got, want.getName());
    }

    /** The residual program's text, as far as it can be asked for. */
    static String text(FlowMixer x) {
        StringBuilder text = new StringBuilder();
        int length = Math.min(x.count(2), 3000);
        for (int i = 0; i < length; i++) {
            text.append((char) x.sign(i));
        }
        return text.toString();
    }

    static void end() {
        System.out.println(made + " checks, " + wrong + " wrong");
        if (wrong != 0 || made == 0) {
            System.exit(1);
        }
    }
}
