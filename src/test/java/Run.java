import java.lang.reflect.InvocationTargetException;
import java.lang.reflect.Method;
import java.lang.reflect.Modifier;
import java.util.Arrays;
import java.util.Map;
import java.util.TreeMap;

/** A new object and the calls that it gets: each is named in what is printed, and counted, since an object may get 512. */
final class Run {
    static final int BAD = -1;
    static final int NONE = -2;
    static final int FULL = -3;
    static final int GONE = -4;
    static final int EXISTS = -5;
    static final int MIN = Integer.MIN_VALUE;
    static final int MAX = Integer.MAX_VALUE;
    static final int MOST_CALLS = 512;

    private static final int THREW = Integer.MIN_VALUE;
    private static final Map<String, Method> METHODS = methods();

    private final String sentence;
    private final MailSessions x = new MailSessions();
    private int calls = 0;

    /** The sentence of the document that the run is about. */
    Run(String sentence) {
        this.sentence = sentence;
    }

    private static Map<String, Method> methods() {
        Map<String, Method> methods = new TreeMap<>();
        for (Method method : MailSessions.class.getDeclaredMethods()) {
            if (Modifier.isPublic(method.getModifiers())) {
                methods.put(method.getName(), method);
            }
        }
        return methods;
    }

    int calls() {
        return calls;
    }

    /** Makes a call and gives its answer; idle, which answers nothing, gives 0. */
    int ask(String name, int... arguments) {
        calls++;
        Due.holds(sentence + ": no more than " + MOST_CALLS + " calls", calls <= MOST_CALLS);
        try {
            Object answer = METHODS.get(name).invoke(x, Arrays.stream(arguments).boxed().toArray());
            return answer == null ? 0 : (Integer) answer;
        } catch (InvocationTargetException thrown) {
            Due.holds(told(name, arguments) + " ends without " + thrown.getCause(), false);
            return THREW;
        } catch (IllegalAccessException | RuntimeException wrongTest) {
            throw new IllegalArgumentException(told(name, arguments), wrongTest);
        }
    }

    /** A call that prepares the state: it must not be refused. */
    Run did(String name, int... arguments) {
        int answer = ask(name, arguments);
        Due.holds(told(name, arguments) + " is not refused, but answered " + answer, answer >= 0);
        return this;
    }

    /** A call whose answer is looked at. */
    Run due(int want, String name, int... arguments) {
        int answer = ask(name, arguments);
        Due.is(told(name, arguments), answer, want);
        return this;
    }

    /** Mailbox m with messages 1 .. n, of sizes 10, 20 .. and without flags. */
    Run filled(int m, int n) {
        did("create", m);
        for (int i = 1; i <= n; i++) {
            did("append", m, 10 * i, 0);
        }
        return this;
    }

    /** The whole view of a session, by its numbers. */
    Run view(int s, int... numbers) {
        due(numbers.length, "length", s);
        for (int place = 1; place <= numbers.length; place++) {
            due(numbers[place - 1], "numberAt", s, place);
        }
        return due(NONE, "numberAt", s, numbers.length + 1);
    }

    /** All that can be learnt of the state; it is spent thereby, so this is the last that is asked of an object. */
    String everything() {
        StringBuilder all = new StringBuilder();
        for (int s = 0; s < 3; s++) {
            tellSession(all, s);
        }
        for (int m = 0; m < 4; m++) {
            tellMailbox(all, m);
        }
        tell(all, "faults");
        for (int m = 0; m < 4; m++) {
            ask("remove", m);
        }
        tell(all, "create", 0);
        return all.toString();
    }

    private void tellSession(StringBuilder all, int s) {
        int length = tell(all, "length", s);
        for (int place = 1; place <= length + 1; place++) {
            tell(all, "numberAt", s, place);
        }
        tell(all, "leave", s);
    }

    private void tellMailbox(StringBuilder all, int m) {
        for (int what = 0; what < 4; what++) {
            tell(all, "status", m, what);
        }
        int next = ask("status", m, 1);
        for (int number = 1; number <= next; number++) {
            tell(all, "vanished", m, number);
        }
        int length = tell(all, "select", 0, m);
        for (int place = 1; place <= length; place++) {
            tell(all, "numberAt", 0, place);
            for (int what = 0; what < 3; what++) {
                tell(all, "fetch", 0, place, what);
            }
        }
    }

    private int tell(StringBuilder all, String name, int... arguments) {
        int answer = ask(name, arguments);
        all.append(name).append(Arrays.toString(arguments)).append(' ').append(answer).append("; ");
        return answer;
    }

    private String told(String name, int... arguments) {
        String list = Arrays.toString(arguments);
        return sentence + ": call " + calls + ", " + name + "(" + list.substring(1, list.length() - 1) + ")";
    }
}
