import java.util.ArrayList;
import java.util.List;
import java.util.Set;
import java.util.TreeMap;
import java.util.TreeSet;

/**
 * Each call with each argument just inside and just outside of both ends of its range, all of them crossed, in objects of
 * many kinds: which exception comes, and that nothing is changed by it, neither to be seen by digest() nor in the walk.
 */
public final class RefusalsTest {

    private static final Runs RUNS = new Runs();

    private static final String[] STATES = {"empty", "full", "at hand", "taken from the hand", "broken", "four open", "over"};

    private static final int[] EXTREMES = {Integer.MIN_VALUE, Integer.MAX_VALUE};

    /** What each method was seen to throw. */
    private static final TreeMap<String, Set<String>> SEEN = new TreeMap<>();

    public static void main(String[] args) {
        for (String state : STATES) {
            for (String told : Calls.TOLD) {
                for (int[] arguments : crossed(Calls.kinds(told), state.equals("four open"))) {
                    compare(state, told, arguments);
                }
            }
        }
        seesEachException();
        RUNS.end();
    }

    private static void compare(String state, String told, int[] arguments) {
        String name = state + ", " + Calls.line(told, arguments);
        Twins twins = prepared(name, state);
        String before = twins.digest();
        String answer = twins.call(told, arguments);
        String refusal = refusal(told, arguments, state.equals("four open"));
        if (refusal != null || answer.equals("! IllegalArgumentException") || answer.equals("! IndexOutOfBoundsException")) {
            RUNS.check(name + " is refused", answer, "! " + refusal);
        }
        if (answer.startsWith("! ")) {
            SEEN.computeIfAbsent(Calls.name(told), unseen -> new TreeSet<>()).add(answer.substring(2));
            RUNS.check(name + " changes nothing", twins.digest(), before);
        }
        goOn(twins);
    }

    /** What can't be seen by digest(): where the walk is, whether its pair can be dropped, which number is free. */
    private static void goOn(Twins twins) {
        twins.call("write v", 7);
        twins.call("drop ");
        twins.call("step ");
        twins.call("write v", 8);
        twins.call("drop ");
        twins.call("step ");
        twins.call("tail bki", 0, 1, 0);
        twins.call("viewRow w", 1);
        twins.call("knock ");
        twins.digest();
    }

    private static Twins prepared(String name, String state) {
        Twins twins = new Twins(RUNS, name);
        if (state.equals("full")) {
            for (int key = 0; key < 100; key++) {
                twins.call("put bkv", 0, key, key % 3 == 0 ? 9999 : -9999);
            }
            twins.call("pour bb", 0, 1);
            twins.call("pour bb", 0, 2);
        } else if (!state.equals("empty")) {
            twins.call("put bkv", 0, 0, -9999);
            twins.call("put bkv", 0, 1, 9999);
            twins.call("put bkv", 0, 50, 9999);
            twins.call("put bkv", 0, 99, 0);
            twins.call("put bkv", 2, 99, 5);
            twins.call("keep bi", 2, 1);
        }
        twins.call("head bki", 0, 50, 1);
        twins.call("tail bki", 1, 50, 1);
        twins.call("sub bkiki", 2, 0, 1, 63, 1);
        if (state.equals("four open")) {
            twins.call("part wkiki", 0, 0, 0, 50, 0);
        } else {
            twins.call("shut w", 1);
        }
        if (!state.equals("empty") && !state.equals("full")) {
            beginWalk(twins, state);
        }
        return twins;
    }

    private static void beginWalk(Twins twins, String state) {
        twins.call("walk b", 0);
        twins.call("step ");
        twins.call("step ");
        switch (state) {
            case "taken from the hand":
                twins.call("put bkv", 0, 1, 9999);
                break;
            case "broken":
                twins.call("put bkv", 0, 2, 9999);
                break;
            case "over":
                twins.call("copy bb", 2, 0);
                twins.call("head bki", 0, 50, 1);
                break;
            default:
                break;
        }
    }

    /** The exception that wrong arguments lead to, or null: one of books and views ahead of one of all else. */
    private static String refusal(String told, int[] arguments, boolean isEachOpen) {
        String kinds = Calls.kinds(told);
        boolean isOther = false;
        for (int i = 0; i < arguments.length; i++) {
            char kind = kinds.charAt(i);
            boolean isRight = isRight(kind, arguments[i], isEachOpen);
            if (!isRight && (kind == 'b' || kind == 'w')) {
                return "IndexOutOfBoundsException";
            }
            isOther |= !isRight;
        }
        boolean isOfTwo = Set.of("pour", "copy", "thin").contains(Calls.name(told));
        return isOther || isOfTwo && arguments[0] == arguments[1] ? "IllegalArgumentException" : null;
    }

    private static boolean isRight(char kind, int argument, boolean isEachOpen) {
        boolean isShut = kind == 'w' && !isEachOpen && (argument == 1 || argument == 3);
        return argument >= least(kind) && argument <= greatest(kind) && !isShut;
    }

    private static int least(char kind) {
        return kind == 'v' ? -9999 : kind == 'r' ? -999 : kind == 's' ? 2 : 0;
    }

    private static int greatest(char kind) {
        switch (kind) {
            case 'b': return 2;
            case 'w': return 3;
            case 'k': return 99;
            case 'v': return 9999;
            case 'i': return 1;
            case 'r': return 999;
            case 's': return 99;
            case 'p': return Integer.MAX_VALUE;
            default: return kind - '0';
        }
    }

    /** All edges of all arguments crossed; the extremes each alone, with the other arguments at the least of their ranges. */
    private static List<int[]> crossed(String kinds, boolean isEachOpen) {
        List<int[]> all = new ArrayList<>();
        all.add(new int[0]);
        for (int i = 0; i < kinds.length(); i++) {
            List<int[]> longer = new ArrayList<>();
            for (int[] some : all) {
                for (int edge : edges(kinds.charAt(i), isEachOpen)) {
                    longer.add(with(some, edge));
                }
            }
            all = longer;
        }
        for (int i = 0; i < kinds.length(); i++) {
            for (int extreme : EXTREMES) {
                if (kinds.charAt(i) != 'i') {
                    all.add(withExtreme(kinds, i, extreme));
                }
            }
        }
        return all;
    }

    private static List<Integer> edges(char kind, boolean isEachOpen) {
        int least = least(kind);
        int greatest = greatest(kind);
        switch (kind) {
            case 'i':
                return List.of(least, greatest);
            case 'p':
                return List.of(-1, 0, 3, 4, 99, 100);
            case 'w':
                return isEachOpen ? List.of(-1, 0, 3, 4) : List.of(-1, 0, 1, 2, 3, 4);
            default:
                return List.of(least - 1, least, greatest, greatest + 1);
        }
    }

    private static int[] with(int[] some, int one) {
        int[] longer = java.util.Arrays.copyOf(some, some.length + 1);
        longer[some.length] = one;
        return longer;
    }

    private static int[] withExtreme(String kinds, int place, int extreme) {
        int[] arguments = new int[kinds.length()];
        for (int i = 0; i < arguments.length; i++) {
            arguments[i] = i == place ? extreme : least(kinds.charAt(i));
        }
        return arguments;
    }

    /** Each method was seen to throw all that its face names, and nothing else. */
    private static void seesEachException() {
        for (java.lang.reflect.Method method : Rangeledger.class.getDeclaredMethods()) {
            if (java.lang.reflect.Modifier.isPublic(method.getModifiers())) {
                Set<String> named = new TreeSet<>();
                for (Class<?> one : method.getExceptionTypes()) {
                    named.add(one.getSimpleName());
                }
                RUNS.check("the exceptions of " + method.getName(), SEEN.getOrDefault(method.getName(), Set.of()), named);
            }
        }
    }
}
