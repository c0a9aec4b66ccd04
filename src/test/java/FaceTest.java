import java.lang.reflect.Constructor;
import java.lang.reflect.Field;
import java.lang.reflect.Member;
import java.lang.reflect.Method;
import java.lang.reflect.Modifier;
import java.util.ArrayList;
import java.util.Collections;
import java.util.List;

/** The public face: what the document lists under it, and nothing else. */
final class FaceTest {
    private static final String INDEX = " IndexOutOfBoundsException";
    private static final String ARGUMENT = " IllegalArgumentException";
    private static final String UNSUPPORTED = " UnsupportedOperationException";
    private static final String STATE = " IllegalStateException";
    private static final String ABSENT = " NoSuchElementException";

    private static final String[] FACE = {
        "int word(int,int,int)" + ARGUMENT + STATE,
        "int say(int)" + INDEX + STATE,
        "int wipe()",
        "int letter(char)" + ARGUMENT + STATE,
        "int person(int,int)" + ARGUMENT + STATE,
        "int setFame(int,int,int,int)" + INDEX + ARGUMENT,
        "int fame(int,int)" + INDEX + ARGUMENT,
        "int document(int,int,int,int,int)" + INDEX + ARGUMENT + UNSUPPORTED + STATE,
        "int search(int,int,int,int)" + ARGUMENT + UNSUPPORTED + STATE,
        "int searches()",
        "boolean isKnown(int)" + INDEX,
        "int moved()",
        "int distance(int,int)" + INDEX,
        "int steps(int,int)" + INDEX,
        "char stepAt(int,int,int)" + INDEX,
        "int source(int)" + INDEX + UNSUPPORTED + ABSENT,
        "int cost(int)" + INDEX + UNSUPPORTED,
        "int rootOf(int)" + INDEX + UNSUPPORTED,
        "int chain(int)" + INDEX + UNSUPPORTED,
        "int versions(int)" + INDEX + UNSUPPORTED,
        "int versionAt(int,int)" + INDEX + UNSUPPORTED + ABSENT,
        "int below(int)" + INDEX + UNSUPPORTED,
        "boolean couldSay(int,int)" + INDEX,
        "boolean isPossible(int)" + INDEX,
        "char verdict(int,int)" + INDEX + UNSUPPORTED,
        "int since(int,int)" + INDEX + UNSUPPORTED + ABSENT,
        "int sure(int)" + INDEX + UNSUPPORTED,
        "boolean areParallel(int,int)" + INDEX + UNSUPPORTED,
        "boolean isProverb(int)" + INDEX + UNSUPPORTED,
        "int collection(int)" + ARGUMENT + STATE,
        "int enter(int,int)" + INDEX + UNSUPPORTED + STATE,
        "int slips(int)" + INDEX,
        "int common(int,int)" + INDEX,
        "int copiedFrom(int)" + INDEX + ABSENT,
        "int quote(int,int,int)" + INDEX + ARGUMENT + UNSUPPORTED + STATE,
        "int pushes()",
        "int push()",
        "int pushedTo(int)" + ARGUMENT,
        "int totalCost()",
        "int leastOfAll()" + UNSUPPORTED,
        "int documents()",
        "int known()",
        "long checksum()",
        "float originShare()" + ABSENT,
        "double meanChain()" + ABSENT,
        "boolean isSound()",
    };

    private FaceTest() {
    }

    public static void main(String[] args) {
        Check.same("the class is public and final", Modifier.PUBLIC | Modifier.FINAL, WhosaidDesk.class.getModifiers());
        Check.same("constructors", 1, WhosaidDesk.class.getDeclaredConstructors().length);
        Constructor<?> constructor = WhosaidDesk.class.getDeclaredConstructors()[0];
        Check.same("1 the constructor", "public WhosaidDesk()", constructor.toGenericString());
        theMethodsAreThose();
        nothingElseIsOpen();
        namesAreNotUsedTwice();
        Check.end();
    }

    private static void theMethodsAreThose() {
        List<String> want = new ArrayList<>(List.of(FACE));
        List<String> got = new ArrayList<>();
        for (Method method : WhosaidDesk.class.getDeclaredMethods()) {
            if (Modifier.isPublic(method.getModifiers())) {
                got.add(describe(method));
            }
        }
        Collections.sort(want);
        Collections.sort(got);
        Check.same("the methods of the face", want, got);
    }

    private static String describe(Method method) {
        StringBuilder words = new StringBuilder();
        words.append(method.getReturnType()).append(' ').append(method.getName()).append('(');
        for (Class<?> type : method.getParameterTypes()) {
            words.append(words.charAt(words.length() - 1) == '(' ? "" : ",").append(type);
        }
        words.append(')');
        for (Class<?> type : method.getExceptionTypes()) {
            words.append(' ').append(type.getSimpleName());
        }
        return words.toString();
    }

    private static void nothingElseIsOpen() {
        List<Member> others = new ArrayList<>(List.of(WhosaidDesk.class.getDeclaredFields()));
        for (Method method : WhosaidDesk.class.getDeclaredMethods()) {
            if (!Modifier.isPublic(method.getModifiers())) {
                others.add(method);
            }
        }
        for (Member other : others) {
            Check.same(other.getName() + " is private", true, Modifier.isPrivate(other.getModifiers()));
        }
        for (Field field : WhosaidDesk.class.getDeclaredFields()) {
            Check.same(field.getName() + " is final", true, Modifier.isFinal(field.getModifiers()));
        }
        for (Class<?> inner : WhosaidDesk.class.getDeclaredClasses()) {
            int open = inner.getModifiers() & (Modifier.PUBLIC | Modifier.PROTECTED);
            Check.same(inner.getSimpleName() + " is not open", 0, open);
            Check.same(inner.getSimpleName() + " is static", true, Modifier.isStatic(inner.getModifiers()));
        }
    }

    private static void namesAreNotUsedTwice() {
        List<Method> inside = new ArrayList<>();
        List<String> names = new ArrayList<>();
        for (Method method : WhosaidDesk.class.getDeclaredMethods()) {
            if (Modifier.isPublic(method.getModifiers())) {
                names.add(method.getName());
            } else {
                inside.add(method);
            }
        }
        for (Class<?> inner : WhosaidDesk.class.getDeclaredClasses()) {
            inside.addAll(List.of(inner.getDeclaredMethods()));
        }
        for (Method method : inside) {
            Check.same(method.getName() + " is no name of the face", false, names.contains(method.getName()));
        }
    }
}
