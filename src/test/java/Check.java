import java.util.List;

/** Compares answers with those that are due, and tells at the end whether all were right. */
final class Check {
    /** Numbers that are out of every range. */
    static final int[] FAR = {Integer.MIN_VALUE, Integer.MIN_VALUE + 1, Integer.MAX_VALUE - 1, Integer.MAX_VALUE};

    interface Call {
        Object answer();
    }

    /** A call that is asked with one number after another. */
    interface Asked {
        Object answer(WhosaidDesk desk, int number);
    }

    private static final List<String> PROMISED = List.of("IndexOutOfBoundsException", "IllegalArgumentException",
            "UnsupportedOperationException", "IllegalStateException", "NoSuchElementException");

    private static int wrong = 0;
    private static int asked = 0;

    private Check() {
    }

    static void same(String what, Object want, Object got) {
        asked++;
        if (!want.equals(got)) {
            wrong++;
            System.out.println(what + ": answered " + got + ", due is " + want);
        }
    }

    static void fails(String what, Class<? extends RuntimeException> want, Call call) {
        same(what, want.getSimpleName(), answerOf(call));
    }

    static void index(String what, Call call) {
        fails(what, IndexOutOfBoundsException.class, call);
    }

    static void argument(String what, Call call) {
        fails(what, IllegalArgumentException.class, call);
    }

    static void unsupported(String what, Call call) {
        fails(what, UnsupportedOperationException.class, call);
    }

    static void state(String what, Call call) {
        fails(what, IllegalStateException.class, call);
    }

    static void absent(String what, Call call) {
        fails(what, java.util.NoSuchElementException.class, call);
    }

    /** The call is not refused, whatever it answers. */
    static void goes(String what, Call call) {
        asked++;
        try {
            call.answer();
        } catch (RuntimeException thrown) {
            wrong++;
            System.out.println(what + ": was refused by " + thrown);
        }
    }

    /** What the class throws itself has a name of the face; what the machine throws has another one. */
    static void endsItself(String what, Object answer) {
        same(what + " ends by " + answer, true, !(answer instanceof String) || PROMISED.contains(answer));
    }

    static Object answerOf(Call call) {
        try {
            return call.answer();
        } catch (RuntimeException thrown) {
            return thrown.getClass().getSimpleName();
        }
    }

    static void end() {
        System.out.println(asked + " answers, " + wrong + " wrong");
        System.exit(wrong == 0 ? 0 : 1);
    }
}
