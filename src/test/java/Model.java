import java.util.ArrayList;
import java.util.Comparator;
import java.util.HashSet;
import java.util.List;
import java.util.Map;
import java.util.Set;
import java.util.TreeMap;

/** The document told a second time, by sorted maps of the library: slow, plain, and made otherwise than Rangeledger. */
final class Model {

    static final int NONE = -10000;
    static final int OUT = -20000;

    private static final List<Comparator<Integer>> ORDERS = List.of(
        Comparator.naturalOrder(),
        Comparator.<Integer, Integer>comparing(key -> key % 2).thenComparing(Comparator.reverseOrder()),
        Comparator.comparing(Model::nameOf));

    /** Calls with which a pair at hand is at hand no more; the number is that of the argument that tells the book or view. */
    private static final Map<String, Integer> WRITING = writing();

    private final List<TreeMap<Integer, Integer>> books = new ArrayList<>();
    private final int[] orders = {0, 1, 2};
    private final Range[] views = new Range[4];
    private Range walk;
    private Integer position;
    private boolean canDrop;
    private boolean isAtHand;
    private boolean isBroken;
    private Map.Entry<Integer, Integer> kept;
    private int refused;

    private record Range(int book, Integer from, boolean isFrom, Integer to, boolean isTo) { }

    Model() {
        for (int order : orders) {
            books.add(new TreeMap<>(ORDERS.get(order)));
        }
    }

    private static Map<String, Integer> writing() {
        Map<String, Integer> writing = new java.util.HashMap<>();
        for (String name : ("put putAbsent replace swap strike strikePair merge grow halve twice poll raise sift "
                + "strikeValue clear thin viewPut viewStrike viewMerge viewPoll viewClear").split(" ")) {
            writing.put(name, 0);
        }
        writing.put("pour", 1);
        writing.put("copy", 1);
        return writing;
    }

    private static String nameOf(int key) {
        StringBuilder name = new StringBuilder();
        int rest = key;
        do {
            name.insert(0, (char) ('a' + rest % 4));
            rest /= 4;
        } while (rest > 0);
        return name.toString();
    }

    /** What a call answers; a boolean counts 1 or 0. */
    Object ask(String name, int[] a) {
        Range walkBefore = walk;
        Set<Integer> keysBefore = walk == null ? Set.of() : new HashSet<>(books.get(walk.book).keySet());
        Integer written = writtenBook(name, a);
        Object answer = answer(name, a);
        if (walk != null && written != null && written == walk.book) {
            isAtHand = false;
        }
        boolean isOwnDoing = name.equals("drop") || name.equals("walk") || name.equals("viewWalk");
        if (walk != null && walk == walkBefore && !isOwnDoing && !keysBefore.equals(books.get(walk.book).keySet())) {
            isBroken = true;
        }
        return answer;
    }

    /** The book in which a call may write, or null. */
    private Integer writtenBook(String name, int[] a) {
        if (!WRITING.containsKey(name)) {
            return null;
        }
        int told = a[WRITING.get(name)];
        if (!name.startsWith("view")) {
            return told;
        }
        return told >= 0 && told < 4 && views[told] != null ? views[told].book : null;
    }

    private Object answer(String name, int[] a) {
        switch (name) {
            case "put": case "putAbsent": case "replace": case "strikePair": case "merge":
                return ofPair(name, book(a[0]), key(a[1]), value(a[2]));
            case "swap": {
                TreeMap<Integer, Integer> book = book(a[0]);
                key(a[1]);
                value(a[2]);
                value(a[3]);
                return book.replace(a[1], a[2], a[3]);
            }
            case "strike": case "grow": case "halve": case "twice":
                return ofKey(name, book(a[0]), key(a[1]));
            case "poll": {
                TreeMap<Integer, Integer> book = book(a[0]);
                Map.Entry<Integer, Integer> polled = a[1] == 1 ? book.pollLastEntry() : book.pollFirstEntry();
                return polled == null ? NONE : polled.getKey();
            }
            case "raise": case "sift": case "strikeValue":
                return ofAll(name, book(a[0]), a[1]);
            case "clear": {
                int size = book(a[0]).size();
                book(a[0]).clear();
                return size;
            }
            case "pour": case "copy": case "thin":
                return ofTwo(name, a);
            case "walk":
                book(a[0]);
                return begin(new Range(a[0], null, false, null, false));
            case "step": case "write": case "drop":
                return ofWalk(name, a);
            case "keep": {
                TreeMap<Integer, Integer> book = book(a[0]);
                if (book.isEmpty()) {
                    return NONE;
                }
                kept = a[1] == 1 ? book.lastEntry() : book.firstEntry();
                return kept.getKey();
            }
            case "brand":
                value(a[0]);
                return kept == null ? NONE : OUT;
            case "knock":
                return ++refused;
            case "isSound":
                return true;
            case "digest":
                return digest();
            case "ledger":
                return ledger(a[0]);
            default:
                return name.equals("head") || name.equals("tail") || name.equals("sub") || name.equals("part")
                    || name.equals("shut") || name.startsWith("view") || name.equals("ofView")
                    ? ofViews(name, a) : ofBooks(name, a);
        }
    }

    private static Object ofPair(String name, TreeMap<Integer, Integer> book, int key, int value) {
        switch (name) {
            case "put":
                return orNone(book.put(key, value));
            case "putAbsent":
                return orNone(book.putIfAbsent(key, value));
            case "replace":
                return orNone(book.replace(key, value));
            case "strikePair":
                return book.remove(key, value);
            default:
                return orNone(book.merge(key, value, (one, other) -> one + other == 0 ? null : bounded(one + other)));
        }
    }

    private static Object ofKey(String name, TreeMap<Integer, Integer> book, int key) {
        switch (name) {
            case "strike":
                return orNone(book.remove(key));
            case "grow":
                return orNone(book.computeIfAbsent(key, k -> k % 7 == 0 ? null : Integer.valueOf(3 * k - 50)));
            case "halve":
                return orNone(book.computeIfPresent(key, (k, v) -> v / 2 == 0 ? null : Integer.valueOf(v / 2)));
            default:
                return orNone(book.compute(key, (k, v) -> v == null ? k : v > 500 || v < -500 ? null : Integer.valueOf(2 * v)));
        }
    }

    private static Object ofAll(String name, TreeMap<Integer, Integer> book, int told) {
        if (name.equals("raise")) {
            refuseIf(told < -999 || told > 999);
            int changed = 0;
            for (Map.Entry<Integer, Integer> pair : book.entrySet()) {
                changed += pair.setValue(bounded(pair.getValue() + told)).equals(pair.getValue()) ? 0 : 1;
            }
            return changed;
        }
        if (name.equals("sift")) {
            refuseIf(told < 2 || told > 99);
            int before = book.size();
            book.values().removeIf(value -> value % told == 0);
            return before - book.size();
        }
        value(told);
        if (book.values().stream().filter(value -> value == told).count() > 1) {
            throw new IllegalStateException();
        }
        return book.values().remove(told);
    }

    private Object ofTwo(String name, int[] a) {
        TreeMap<Integer, Integer> one = book(a[0]);
        TreeMap<Integer, Integer> other = book(a[1]);
        refuseIf(a[0] == a[1]);
        if (name.equals("pour")) {
            other.putAll(new TreeMap<>(one));
            return other.size();
        }
        if (name.equals("thin")) {
            int before = one.size();
            one.keySet().removeIf(key -> other.containsKey(key) == (a[2] == 1));
            return before - one.size();
        }
        books.set(a[1], new TreeMap<>(one));
        orders[a[1]] = orders[a[0]];
        int shut = 0;
        for (int number = 0; number < 4; number++) {
            if (views[number] != null && views[number].book == a[1]) {
                views[number] = null;
                shut++;
            }
        }
        if (walk != null && walk.book == a[1]) {
            walk = null;
            isBroken = false;
            isAtHand = false;
        }
        return shut;
    }

    private Object ofWalk(String name, int[] a) {
        if (name.equals("write")) {
            value(a[0]);
        }
        if (walk == null || isBroken) {
            throw new IllegalStateException();
        }
        TreeMap<Integer, Integer> book = books.get(walk.book);
        if (name.equals("write")) {
            if (!isAtHand) {
                throw new IllegalStateException();
            }
            return book.put(position, a[0]);
        }
        if (name.equals("drop")) {
            if (!canDrop) {
                throw new IllegalStateException();
            }
            book.remove(position);
            canDrop = false;
            isAtHand = false;
            return book.size();
        }
        for (int key : shown(walk).keySet()) {
            if (position == null || compare(walk.book, position, key) < 0) {
                position = key;
                canDrop = true;
                isAtHand = true;
                return key;
            }
        }
        return NONE;
    }

    private int begin(Range range) {
        walk = range;
        position = null;
        canDrop = false;
        isAtHand = false;
        isBroken = false;
        return shown(range).size();
    }

    private Object ofBooks(String name, int[] a) {
        TreeMap<Integer, Integer> book = book(a[0]);
        switch (name) {
            case "get":
                return book.getOrDefault(key(a[1]), NONE);
            case "getOr":
                return book.getOrDefault(key(a[1]), value(a[2]));
            case "has":
                return book.containsKey(key(a[1]));
            case "hasValue":
                return book.containsValue(value(a[1]));
            case "ofBook":
                return ofBook(book, a[0], a[1]);
            case "near":
                key(a[1]);
                refuseIf(a[2] < 0 || a[2] > 7);
                int found = near(book, a[1], a[2] % 4);
                return a[2] < 4 || found == NONE ? found : book.get(found);
            case "place":
                return book.headMap(key(a[1]), false).size();
            case "at":
                refuseIf(a[1] < 0);
                return a[1] < book.size() ? new ArrayList<>(book.keySet()).get(a[1]) : NONE;
            case "row":
                return book.toString();
            case "same":
                return book.equals(book(a[1]));
            default:
                throw new AssertionError(name);
        }
    }

    private int ofBook(TreeMap<Integer, Integer> book, int number, int what) {
        refuseIf(what < 0 || what > 8);
        if (what > 1 && what < 6 && book.isEmpty()) {
            return NONE;
        }
        switch (what) {
            case 0: return book.size();
            case 1: return orders[number];
            case 2: return book.firstKey();
            case 3: return book.firstEntry().getValue();
            case 4: return book.lastKey();
            case 5: return book.lastEntry().getValue();
            case 6: return sum(book);
            case 7: return new HashSet<>(book.values()).size();
            default:
                int count = 0;
                for (Range view : views) {
                    count += view != null && view.book == number ? 1 : 0;
                }
                return count;
        }
    }

    private Object ofViews(String name, int[] a) {
        switch (name) {
            case "head":
                book(a[0]);
                key(a[1]);
                return open(new Range(a[0], null, false, a[1], a[2] == 1), false);
            case "tail":
                book(a[0]);
                key(a[1]);
                return open(new Range(a[0], a[1], a[2] == 1, null, false), false);
            case "sub":
                book(a[0]);
                key(a[1]);
                key(a[3]);
                return open(new Range(a[0], a[1], a[2] == 1, a[3], a[4] == 1), compare(a[0], a[1], a[3]) > 0);
            default:
                return ofView(name, view(a[0]), a);
        }
    }

    private Object ofView(String name, Range view, int[] a) {
        TreeMap<Integer, Integer> shown = shown(view);
        switch (name) {
            case "part":
                key(a[1]);
                key(a[3]);
                boolean isOut = !isWithin(view, a[1]) || !isWithin(view, a[3]) || compare(view.book, a[1], a[3]) > 0;
                return open(new Range(view.book, a[1], a[2] == 1, a[3], a[4] == 1), isOut);
            case "shut":
                views[a[0]] = null;
                return shown.size();
            case "viewPut":
                key(a[1]);
                value(a[2]);
                return isWithin(view, a[1]) ? ofPair("put", book(view.book), a[1], a[2]) : (Object) OUT;
            case "viewStrike":
                key(a[1]);
                return isWithin(view, a[1]) ? ofKey("strike", book(view.book), a[1]) : (Object) NONE;
            case "viewMerge":
                key(a[1]);
                value(a[2]);
                return isWithin(view, a[1]) ? ofPair("merge", book(view.book), a[1], a[2]) : (Object) OUT;
            case "viewPoll":
                if (shown.isEmpty()) {
                    return NONE;
                }
                int polled = a[1] == 1 ? shown.lastKey() : shown.firstKey();
                book(view.book).remove(polled);
                return polled;
            case "viewClear":
                book(view.book).keySet().removeAll(shown.keySet());
                return shown.size();
            case "viewWalk":
                return begin(view);
            case "viewGet":
                return shown.getOrDefault(key(a[1]), NONE);
            case "viewNear":
                key(a[1]);
                refuseIf(a[2] < 0 || a[2] > 3);
                return near(shown, a[1], a[2]);
            case "viewRow":
                return shown.toString();
            case "ofView":
                return ofView(view, shown, a[1]);
            default:
                throw new AssertionError(name);
        }
    }

    private int ofView(Range view, TreeMap<Integer, Integer> shown, int what) {
        refuseIf(what < 0 || what > 8);
        switch (what) {
            case 0: return shown.size();
            case 1: return view.book;
            case 2: return orNone(view.from);
            case 3: return orNone(view.to);
            case 4: return view.isFrom ? 1 : 0;
            case 5: return view.isTo ? 1 : 0;
            case 6: return shown.isEmpty() ? NONE : shown.firstKey();
            case 7: return shown.isEmpty() ? NONE : shown.lastKey();
            default: return sum(shown);
        }
    }

    private int open(Range range, boolean isOut) {
        for (int number = 0; number < 4; number++) {
            if (views[number] == null) {
                views[number] = isOut ? null : range;
                return isOut ? OUT : number;
            }
        }
        throw new IllegalStateException();
    }

    private int ledger(int what) {
        refuseIf(what < 0 || what > 6);
        switch (what) {
            case 0:
                int open = 0;
                for (Range view : views) {
                    open += view == null ? 0 : 1;
                }
                return open;
            case 1: return walk == null ? NONE : walk.book;
            case 2: return walk != null && isBroken ? 1 : 0;
            case 3: return walk != null && isAtHand ? position : NONE;
            case 4: return kept == null ? NONE : kept.getKey();
            case 5: return kept == null ? NONE : kept.getValue();
            default: return refused;
        }
    }

    private long digest() {
        List<Integer> told = new ArrayList<>();
        for (int what = 0; what < 7; what++) {
            told.add(ledger(what));
        }
        for (int number = 0; number < 3; number++) {
            for (int what = 0; what < 9; what++) {
                told.add(ofBook(books.get(number), number, what));
            }
            books.get(number).forEach((key, value) -> told.addAll(List.of(key, value)));
            for (int what = 0; what < 8; what++) {
                told.add((Integer) ofBooks("near", new int[] {number, 50, what}));
            }
            for (int other = 0; other < 3; other++) {
                told.add(books.get(number).equals(books.get(other)) ? 1 : 0);
            }
        }
        for (int number = 0; number < 4; number++) {
            if (views[number] != null) {
                told.add(number);
                TreeMap<Integer, Integer> shown = shown(views[number]);
                for (int what = 0; what < 9; what++) {
                    told.add(ofView(views[number], shown, what));
                }
                for (int what = 0; what < 4; what++) {
                    told.add(near(shown, 50, what));
                }
                told.add(shown.toString().length());
            }
        }
        told.add(1);
        long digest = 6007;
        for (int one : told) {
            digest = digest * 31 + one;
        }
        return digest;
    }

    private TreeMap<Integer, Integer> shown(Range range) {
        TreeMap<Integer, Integer> shown = new TreeMap<>(books.get(range.book));
        shown.keySet().removeIf(key -> !isWithin(range, key));
        return shown;
    }

    private boolean isWithin(Range range, int key) {
        boolean isAhead = range.from != null && compare(range.book, key, range.from) < (range.isFrom ? 0 : 1);
        boolean isBehind = range.to != null && compare(range.book, key, range.to) > (range.isTo ? 0 : -1);
        return !isAhead && !isBehind;
    }

    private int compare(int book, int one, int other) {
        return ORDERS.get(orders[book]).compare(one, other);
    }

    private static int near(TreeMap<Integer, Integer> pairs, int key, int what) {
        return orNone(what == 0 ? pairs.lowerKey(key) : what == 1 ? pairs.floorKey(key)
            : what == 2 ? pairs.ceilingKey(key) : pairs.higherKey(key));
    }

    private static int sum(TreeMap<Integer, Integer> pairs) {
        return pairs.values().stream().mapToInt(Integer::intValue).sum();
    }

    private static int orNone(Integer told) {
        return told == null ? NONE : told;
    }

    private static int bounded(int value) {
        return value > 9999 ? 9999 : value < -9999 ? -9999 : value;
    }

    private TreeMap<Integer, Integer> book(int number) {
        if (number < 0 || number > 2) {
            throw new IndexOutOfBoundsException();
        }
        return books.get(number);
    }

    private Range view(int number) {
        if (number < 0 || number > 3 || views[number] == null) {
            throw new IndexOutOfBoundsException();
        }
        return views[number];
    }

    private static int key(int key) {
        refuseIf(key < 0 || key > 99);
        return key;
    }

    private static int value(int value) {
        refuseIf(value < -9999 || value > 9999);
        return value;
    }

    private static void refuseIf(boolean isWrong) {
        if (isWrong) {
            throw new IllegalArgumentException();
        }
    }
}
