import java.lang.reflect.InvocationTargetException;
import java.lang.reflect.Method;
import java.lang.reflect.Modifier;
import java.util.HashMap;
import java.util.Map;

/**
 * Runs of calls, a call a line: "put(0, 5, 7) = NONE" tells the answer that is due, "put(3, 5, 7) ! IndexOutOfBoundsException"
 * the exception. A line that begins with # is a comment. Of a refused call the digest must be the same before and after.
 */
final class Runs {

    private static final Map<String, Method> METHODS = publicMethods();

    /** Nothing is promised about an object after so many calls. */
    private static final int MOST_CALLS = 512;

    private int asked;
    private int wrong;

    /** The calls on the object of the newest run. */
    private int calls;

    /** Runs the lines on a new object, which is handed back for more. */
    Rangeledger run(String name, String lines) {
        calls = 0;
        Rangeledger ledger = new Rangeledger();
        goOn(ledger, name, lines);
        return ledger;
    }

    /** Goes on with the object of the newest run. */
    void goOn(Rangeledger ledger, String name, String lines) {
        for (String line : lines.split("\n")) {
            String told = line.strip();
            if (!told.isEmpty() && !told.startsWith("#")) {
                line(ledger, name, told);
            }
        }
        check(name + ": no more calls than the document promises", calls <= MOST_CALLS, true);
    }

    /** The lines that give a book all keys, each with itself as its value. */
    static String full(int book) {
        StringBuilder lines = new StringBuilder();
        for (int key = 0; key < 100; key++) {
            lines.append("put(" + book + ", " + key + ", " + key + ") = NONE\n");
        }
        return lines.toString();
    }

    private void line(Rangeledger ledger, String name, String line) {
        int close = line.indexOf(')');
        String call = line.substring(0, close + 1);
        String rest = line.substring(close + 1).strip();
        String due = rest.substring(1).strip();
        calls += rest.charAt(0) == '!' ? 3 : 1;
        if (rest.charAt(0) == '!') {
            long before = ledger.digest();
            check(name + ": " + call, answer(ledger, call), "! " + due);
            check(name + ": nothing changes by the refused " + call, ledger.digest(), before);
        } else {
            check(name + ": " + call, answer(ledger, call), due.replace("NONE", "-10000").replace("OUT", "-20000"));
        }
    }

    /** The answer of a call as text; "! Name" of an exception, by the very class that was thrown. */
    static String answer(Rangeledger ledger, String call) {
        int open = call.indexOf('(');
        String inside = call.substring(open + 1, call.length() - 1).strip();
        return answer(ledger, call.substring(0, open), inside.isEmpty() ? new String[0] : inside.split(", *"));
    }

    private static String answer(Rangeledger ledger, String name, String[] told) {
        Method method = METHODS.get(name);
        if (method == null) {
            throw new IllegalStateException("no method " + name);
        }
        Object[] arguments = new Object[told.length];
        for (int i = 0; i < told.length; i++) {
            boolean isInt = method.getParameterTypes()[i] == int.class;
            arguments[i] = isInt ? (Object) Integer.valueOf(told[i]) : (Object) Boolean.valueOf(told[i]);
        }
        try {
            return String.valueOf(method.invoke(ledger, arguments));
        } catch (InvocationTargetException e) {
            return "! " + e.getCause().getClass().getSimpleName();
        } catch (IllegalAccessException e) {
            throw new IllegalStateException(e);
        }
    }

    private static Map<String, Method> publicMethods() {
        Map<String, Method> methods = new HashMap<>();
        for (Method method : Rangeledger.class.getDeclaredMethods()) {
            if (Modifier.isPublic(method.getModifiers())) {
                methods.put(method.getName(), method);
            }
        }
        return methods;
    }

    void check(String what, Object got, Object due) {
        asked++;
        if (!due.equals(got)) {
            wrong++;
            System.out.println(what + " answered " + got + ", due is " + due);
        }
    }

    /** Ends the program, with exit code 1 if an answer was wrong. */
    void end() {
        System.out.println(asked + " answers, " + wrong + " of them wrong");
        if (wrong > 0 || asked == 0) {
            System.exit(1);
        }
    }
}
