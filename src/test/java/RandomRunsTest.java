import java.lang.reflect.InvocationTargetException;
import java.lang.reflect.Method;
import java.util.ArrayList;
import java.util.Arrays;
import java.util.List;

/**
 * All promises: runs of calls, the same ones each time, on the class and on the model. What a desk answers behind its
 * 512th call is free, but the machine throws nothing in it even then.
 */
final class RandomRunsTest {
    private static final int RUNS = 1500;
    private static final int CALLS = 512;
    private static final int CALLS_OF_A_LONG_RUN = 3000;
    private static final String[] KINDS = {"book", "book", "paper", "letter", "talk", "notes", "denial"};

    private static final List<Method> QUERIES = new ArrayList<>();

    /** Runs with few names and far words make proverbs, those with many names and near words make mistakes. */
    private final boolean isNameless;
    /** Long texts, each made of the one ahead of it, in few years. */
    private final boolean isWordy;
    private final int most;
    private final List<Integer> text = new ArrayList<>();
    private final WhosaidDesk desk = new WhosaidDesk();
    private final Model model = new Model();
    private final String run;
    private long seed;
    private int calls;

    private RandomRunsTest(int number) {
        seed = number;
        isNameless = number % 3 == 0;
        isWordy = number % 3 == 1;
        most = number % 50 == 0 ? CALLS_OF_A_LONG_RUN : CALLS;
        run = "run " + number;
    }

    public static void main(String[] args) {
        List<String> changing = List.of("word", "say", "wipe", "letter", "person", "setFame", "document", "search",
                "collection", "enter", "quote", "push");
        for (Method method : WhosaidDesk.class.getDeclaredMethods()) {
            if (java.lang.reflect.Modifier.isPublic(method.getModifiers()) && !changing.contains(method.getName())) {
                QUERIES.add(method);
            }
        }
        QUERIES.sort((one, other) -> one.getName().compareTo(other.getName()));
        for (int number = 0; number < RUNS; number++) {
            new RandomRunsTest(number).play();
        }
        Check.end();
    }

    private void play() {
        for (int many = 0; many < 9; many++) {
            int concept = isNameless ? many : pick(isWordy ? 2 : 4);
            call("word", concept, pick(10) < 6 ? 0 : pick(4), pick(5) == 0 ? 1700 + pick(200) : 1000);
        }
        for (int many = 0; many < 4; many++) {
            int born = 1650 + pick(200);
            call("person", born, born + pick(90));
        }
        for (int many = 0; many < 3; many++) {
            call("collection", 1900 + pick(3));
        }
        while (calls < most) {
            int choice = pick(30);
            if (choice < 5) {
                document();
            } else if (choice < 7) {
                search();
            } else {
                small(choice);
            }
            for (int many = 0; many < 3; many++) {
                query();
            }
        }
    }

    private void small(int choice) {
        switch (choice) {
            case 7 -> call("setFame", off(4), pick(25) - 2, pick(22) - 1, year());
            case 8 -> call("collection", pick(6) == 0 ? year() : 1900 + pick(3));
            case 9, 10, 11, 12, 13 -> call("enter", off(3), off(model.documents()));
            case 14 -> call("quote", pick(12) - 1, off(model.documents()), off(4));
            case 15 -> call(pick(3) == 0 ? "push" : "pushes");
            case 16 -> call("word", pick(33) - 1, pick(6) - 1, pick(30) == 0 ? 999 : year());
            case 17 -> call("person", year(), pick(4) == 0 ? year() : 2100);
            case 18 -> call("say", off(10));
            case 19 -> call("letter", (char) ('`' + pick(28)));
            default -> query();
        }
    }

    private void document() {
        if (pick(10) > 0) {
            call("wipe");
        }
        type();
        if (isWordy) {
            sayAlmostTheSame();
        } else {
            for (int many = 1 + pick(isNameless ? 2 : 4); many > 0; many--) {
                call("say", pick(9));
            }
        }
        int said = pick(isNameless ? 9 : 4) == 0 ? pick(5) - 1 : isNameless ? -1 : pick(2);
        call("document", year(), pick(25) == 0 ? 10 : pick(10), pick(5) - 1, said, pick(3) == 0 ? pick(102) : 0);
    }

    private void sayAlmostTheSame() {
        for (int place = text.size() - 1; place >= 0; place--) {
            if (pick(7) == 0) {
                text.remove(place);
            } else if (pick(8) == 0) {
                text.set(place, pick(9));
            }
        }
        for (int many = text.size() < 8 ? 1 + pick(3) : pick(2); many > 0; many--) {
            text.add(pick(text.size() + 1), pick(9));
        }
        for (int word : text) {
            call("say", word);
        }
        while (text.size() > 10) {
            text.remove(0);
        }
    }

    private void search() {
        call("wipe");
        type();
        for (int many = isWordy ? 2 + pick(4) : 1 + pick(5) / 4; many > 0; many--) {
            call("say", pick(9));
        }
        int from = pick(3) > 0 ? 1000 : year();
        call("search", from, pick(3) > 0 ? 2100 : from + 30 + pick(200), pick(4) > 0 ? 100 : pick(102), pick(6) - 1);
    }

    private void type() {
        String kind = KINDS[pick(KINDS.length)];
        for (int place = 0; place < kind.length(); place++) {
            call("letter", kind.charAt(place));
        }
    }

    private void query() {
        Method method = QUERIES.get(pick(QUERIES.size()));
        Object[] arguments = new Object[method.getParameterCount()];
        for (int place = 0; place < arguments.length; place++) {
            boolean person = place == 1 && method.getName().matches("verdict|since|couldSay");
            arguments[place] = off(person ? 5 : model.documents() + 1);
        }
        if (method.getName().equals("fame")) {
            arguments[1] = year();
        }
        if (method.getName().matches("slips|common|copiedFrom")) {
            for (int place = 0; place < arguments.length; place++) {
                arguments[place] = off(3);
            }
        }
        call(method.getName(), arguments);
    }

    /** A number below the count, now and then one beside it or far from it. */
    private int off(int count) {
        int[] strange = {-1, count, Integer.MAX_VALUE, Integer.MIN_VALUE};
        return pick(40) == 0 ? strange[pick(4)] : pick(Math.max(1, count));
    }

    private int year() {
        return pick(12) == 0 ? 998 + pick(1105) : isWordy ? 1790 + pick(3) : 1680 + pick(250);
    }

    /** The numbers only look random, so that a fault comes back with its run. */
    private int pick(int count) {
        seed = seed * 6364136223846793005L + 1442695040888963407L;
        return (int) ((seed >>> 33) % count);
    }

    private void call(String name, Object... arguments) {
        calls++;
        String what = run + ", call " + calls + ", " + name + Arrays.toString(arguments);
        if (calls <= CALLS) {
            Object want = answer(model, Model.class, name, arguments);
            Object got = answer(desk, WhosaidDesk.class, name, arguments);
            Check.same(what, want, got);
        } else if (calls <= most) {
            Check.endsItself(what, answer(desk, WhosaidDesk.class, name, arguments));
        }
    }

    private static Object answer(Object on, Class<?> type, String name, Object[] arguments) {
        Class<?>[] types = new Class<?>[arguments.length];
        for (int place = 0; place < types.length; place++) {
            types[place] = arguments[place] instanceof Character ? char.class : int.class;
        }
        try {
            return type.getMethod(name, types).invoke(on, arguments);
        } catch (InvocationTargetException thrown) {
            return thrown.getCause().getClass().getSimpleName();
        } catch (ReflectiveOperationException other) {
            return other.toString();
        }
    }
}
