/**
 * Three books of pairs that lie in order, views onto parts of them, one walk and one kept pair.
 * What each call promises stands in ../shared/DOC.md.
 */
public final class Rangeledger {

    private static final int NONE = -10000;
    private static final int OUT = -20000;

    private static final int BOOK_COUNT = 3;
    private static final int VIEW_LIMIT = 4;
    private static final int KEY_LIMIT = 100;
    private static final int GREATEST_VALUE = 9999;
    private static final int GREATEST_RAISE = 999;
    private static final int LEAST_SIFT = 2;
    private static final int GREATEST_SIFT = 99;
    private static final int TWICE_LIMIT = 500;

    /** Above the weight of each key in each order. */
    private static final int WEIGHT_LIMIT = 1024;

    /** What near() asks for; the last kind, 3, is HIGHER. */
    private static final int LOWER = 0;
    private static final int FLOOR = 1;
    private static final int CEILING = 2;
    private static final int NEAR_KINDS = 4;

    private static final int GREATEST_OF_LEDGER = 6;
    private static final int GREATEST_OF_BOOK = 8;
    private static final int GREATEST_OF_VIEW = 8;

    private static final long DIGEST_START = 6007;
    private static final int DIGEST_KEY = 50;

    private final Book[] books;

    /** The open views by their numbers; null where a number is free. */
    private final View[] views;

    /** Null while there is no walk. */
    private Walk ongoing;

    private int keptKey;
    private int keptValue;
    private int refused;

    public Rangeledger() {
        books = new Book[BOOK_COUNT];
        for (int number = 0; number < books.length; number++) {
            books[number] = new Book(number);
        }
        views = new View[VIEW_LIMIT];
        keptKey = NONE;
        keptValue = NONE;
    }

    // ---- writing in a book

    public int put(int book, int key, int value) throws IndexOutOfBoundsException, IllegalArgumentException {
        return bookToWritePair(book, key, value).enter(key, value);
    }

    public int putAbsent(int book, int key, int value) throws IndexOutOfBoundsException, IllegalArgumentException {
        Book written = bookToWritePair(book, key, value);
        return written.holds(key) ? written.valueOf(key) : written.enter(key, value);
    }

    public int replace(int book, int key, int value) throws IndexOutOfBoundsException, IllegalArgumentException {
        Book written = bookToWritePair(book, key, value);
        return written.holds(key) ? written.enter(key, value) : NONE;
    }

    public boolean swap(int book, int key, int old, int value)
            throws IndexOutOfBoundsException, IllegalArgumentException {
        Book written = bookAt(book);
        checkKey(key);
        checkValue(old);
        checkValue(value);
        written.touch();
        if (written.valueOf(key) != old) {
            return false;
        }
        written.enter(key, value);
        return true;
    }

    public int strike(int book, int key) throws IndexOutOfBoundsException, IllegalArgumentException {
        return bookToWriteKey(book, key).removeKey(key);
    }

    public boolean strikePair(int book, int key, int value) throws IndexOutOfBoundsException, IllegalArgumentException {
        Book written = bookToWritePair(book, key, value);
        if (written.valueOf(key) != value) {
            return false;
        }
        written.removeKey(key);
        return true;
    }

    public int merge(int book, int key, int value) throws IndexOutOfBoundsException, IllegalArgumentException {
        return bookToWritePair(book, key, value).putTogether(key, value);
    }

    public int grow(int book, int key) throws IndexOutOfBoundsException, IllegalArgumentException {
        return bookToWriteKey(book, key).growKey(key);
    }

    public int halve(int book, int key) throws IndexOutOfBoundsException, IllegalArgumentException {
        return bookToWriteKey(book, key).halveKey(key);
    }

    public int twice(int book, int key) throws IndexOutOfBoundsException, IllegalArgumentException {
        return bookToWriteKey(book, key).doubleKey(key);
    }

    public int poll(int book, boolean isLast) throws IndexOutOfBoundsException {
        Book written = bookAt(book);
        written.touch();
        return written.removeAt(isLast ? written.size() - 1 : 0);
    }

    public int raise(int book, int by) throws IndexOutOfBoundsException, IllegalArgumentException {
        Book written = bookAt(book);
        if (by < -GREATEST_RAISE || by > GREATEST_RAISE) {
            throw new IllegalArgumentException("by is not -999 to 999");
        }
        written.touch();
        return written.raiseAll(by);
    }

    public int sift(int book, int by) throws IndexOutOfBoundsException, IllegalArgumentException {
        Book written = bookAt(book);
        if (by < LEAST_SIFT || by > GREATEST_SIFT) {
            throw new IllegalArgumentException("by is not 2 to 99");
        }
        written.touch();
        return written.removeMultiples(by);
    }

    public boolean strikeValue(int book, int value)
            throws IndexOutOfBoundsException, IllegalArgumentException, IllegalStateException {
        Book written = bookAt(book);
        checkValue(value);
        int found = written.countOfValue(value);
        if (found > 1) {
            throw new IllegalStateException("several keys have the value");
        }
        written.touch();
        if (found == 0) {
            return false;
        }
        written.removeAt(written.firstPlaceOfValue(value));
        return true;
    }

    public int clear(int book) throws IndexOutOfBoundsException {
        Book written = bookAt(book);
        written.touch();
        return written.removeRange(0, written.size());
    }

    // ---- books with books

    public int pour(int from, int to) throws IndexOutOfBoundsException, IllegalArgumentException {
        Book source = bookAt(from);
        Book written = bookAt(to);
        checkUnlike(from, to);
        written.touch();
        written.enterAll(source);
        return written.size();
    }

    public int copy(int from, int to) throws IndexOutOfBoundsException, IllegalArgumentException {
        Book source = bookAt(from);
        Book written = bookAt(to);
        checkUnlike(from, to);
        written.becomeLike(source);
        if (ongoing != null && ongoing.book() == written) {
            ongoing = null;
        }
        return shutViewsOnto(written);
    }

    public int thin(int book, int other, boolean isCommon) throws IndexOutOfBoundsException, IllegalArgumentException {
        Book written = bookAt(book);
        Book compared = bookAt(other);
        checkUnlike(book, other);
        written.touch();
        return written.removeByOther(compared, isCommon);
    }

    // ---- views

    public int head(int book, int to, boolean isIn)
            throws IndexOutOfBoundsException, IllegalArgumentException, IllegalStateException {
        Book seen = bookAt(book);
        checkKey(to);
        return openView(new View(seen, NONE, false, to, isIn));
    }

    public int tail(int book, int from, boolean isIn)
            throws IndexOutOfBoundsException, IllegalArgumentException, IllegalStateException {
        Book seen = bookAt(book);
        checkKey(from);
        return openView(new View(seen, from, isIn, NONE, false));
    }

    public int sub(int book, int from, boolean isFrom, int to, boolean isTo)
            throws IndexOutOfBoundsException, IllegalArgumentException, IllegalStateException {
        Book seen = bookAt(book);
        checkKey(from);
        checkKey(to);
        checkViewIsFree();
        if (seen.isAhead(to, from)) {
            return OUT;
        }
        return openView(new View(seen, from, isFrom, to, isTo));
    }

    public int part(int view, int from, boolean isFrom, int to, boolean isTo)
            throws IndexOutOfBoundsException, IllegalArgumentException, IllegalStateException {
        View whole = viewAt(view);
        checkKey(from);
        checkKey(to);
        checkViewIsFree();
        if (!whole.isWithin(from) || !whole.isWithin(to) || whole.book().isAhead(to, from)) {
            return OUT;
        }
        return openView(new View(whole.book(), from, isFrom, to, isTo));
    }

    public int shut(int view) throws IndexOutOfBoundsException {
        int shown = viewAt(view).size();
        views[view] = null;
        return shown;
    }

    public int viewPut(int view, int key, int value) throws IndexOutOfBoundsException, IllegalArgumentException {
        View through = viewToWritePair(view, key, value);
        return through.isWithin(key) ? through.book().enter(key, value) : OUT;
    }

    public int viewStrike(int view, int key) throws IndexOutOfBoundsException, IllegalArgumentException {
        View through = viewAt(view);
        checkKey(key);
        through.book().touch();
        return through.isWithin(key) ? through.book().removeKey(key) : NONE;
    }

    public int viewMerge(int view, int key, int value) throws IndexOutOfBoundsException, IllegalArgumentException {
        View through = viewToWritePair(view, key, value);
        return through.isWithin(key) ? through.book().putTogether(key, value) : OUT;
    }

    public int viewPoll(int view, boolean isLast) throws IndexOutOfBoundsException {
        View through = viewAt(view);
        through.book().touch();
        if (through.size() == 0) {
            return NONE;
        }
        return through.book().removeAt(isLast ? through.end() - 1 : through.start());
    }

    public int viewClear(int view) throws IndexOutOfBoundsException {
        View through = viewAt(view);
        through.book().touch();
        return through.book().removeRange(through.start(), through.end());
    }

    // ---- walks and kept pairs

    public int walk(int book) throws IndexOutOfBoundsException {
        return beginWalk(new View(bookAt(book), NONE, false, NONE, false));
    }

    public int viewWalk(int view) throws IndexOutOfBoundsException {
        return beginWalk(viewAt(view));
    }

    public int step() throws IllegalStateException {
        return soundWalk().advance();
    }

    public int write(int value) throws IllegalArgumentException, IllegalStateException {
        checkValue(value);
        Walk walking = soundWalk();
        int key = walking.keyAtHand();
        if (key == NONE) {
            throw new IllegalStateException("nothing is at hand");
        }
        return walking.book().enter(key, value);
    }

    public int drop() throws IllegalStateException {
        Walk walking = soundWalk();
        if (!walking.canDrop()) {
            throw new IllegalStateException("no step came to a pair that is not dropped");
        }
        walking.dropLastStep();
        return walking.book().size();
    }

    public int keep(int book, boolean isLast) throws IndexOutOfBoundsException {
        Book seen = bookAt(book);
        if (seen.size() == 0) {
            return NONE;
        }
        int place = isLast ? seen.size() - 1 : 0;
        keptKey = seen.keyAt(place);
        keptValue = seen.valueAt(place);
        return keptKey;
    }

    public int brand(int value) throws IllegalArgumentException {
        checkValue(value);
        return keptKey == NONE ? NONE : OUT;
    }

    public int knock() {
        refused++;
        return refused;
    }

    // ---- what is asked of a book

    public int get(int book, int key) throws IndexOutOfBoundsException, IllegalArgumentException {
        Book asked = bookAt(book);
        checkKey(key);
        return asked.valueOf(key);
    }

    public int getOr(int book, int key, int other) throws IndexOutOfBoundsException, IllegalArgumentException {
        Book asked = bookAt(book);
        checkKey(key);
        checkValue(other);
        return asked.holds(key) ? asked.valueOf(key) : other;
    }

    public boolean has(int book, int key) throws IndexOutOfBoundsException, IllegalArgumentException {
        Book asked = bookAt(book);
        checkKey(key);
        return asked.holds(key);
    }

    public boolean hasValue(int book, int value) throws IndexOutOfBoundsException, IllegalArgumentException {
        Book asked = bookAt(book);
        checkValue(value);
        return asked.firstPlaceOfValue(value) != NONE;
    }

    public int ofBook(int book, int what) throws IndexOutOfBoundsException, IllegalArgumentException {
        Book asked = bookAt(book);
        checkWhat(what, GREATEST_OF_BOOK);
        switch (what) {
            case 0:
                return asked.size();
            case 1:
                return asked.order();
            case 2:
                return asked.keyAt(0);
            case 3:
                return asked.valueAt(0);
            case 4:
                return asked.keyAt(asked.size() - 1);
            case 5:
                return asked.valueAt(asked.size() - 1);
            case 6:
                return asked.sum(0, asked.size());
            case 7:
                return asked.unlikeValues();
            default:
                return viewsOnto(asked);
        }
    }

    public int near(int book, int key, int what) throws IndexOutOfBoundsException, IllegalArgumentException {
        Book asked = bookAt(book);
        checkKey(key);
        checkWhat(what, 2 * NEAR_KINDS - 1);
        int found = asked.closest(key, what % NEAR_KINDS, 0, asked.size());
        return what < NEAR_KINDS ? found : asked.valueOf(found);
    }

    public int place(int book, int key) throws IndexOutOfBoundsException, IllegalArgumentException {
        Book asked = bookAt(book);
        checkKey(key);
        return asked.placeOf(key);
    }

    public int at(int book, int place) throws IndexOutOfBoundsException, IllegalArgumentException {
        Book asked = bookAt(book);
        if (place < 0) {
            throw new IllegalArgumentException("place is below 0");
        }
        return asked.keyAt(place);
    }

    public String row(int book) throws IndexOutOfBoundsException {
        Book asked = bookAt(book);
        return asked.text(0, asked.size());
    }

    public boolean same(int one, int other) throws IndexOutOfBoundsException {
        Book compared = bookAt(one);
        return compared.isLike(bookAt(other));
    }

    // ---- what is asked of a view, and of all

    public int viewGet(int view, int key) throws IndexOutOfBoundsException, IllegalArgumentException {
        View asked = viewAt(view);
        checkKey(key);
        return asked.isWithin(key) ? asked.book().valueOf(key) : NONE;
    }

    public int ofView(int view, int what) throws IndexOutOfBoundsException, IllegalArgumentException {
        View asked = viewAt(view);
        checkWhat(what, GREATEST_OF_VIEW);
        switch (what) {
            case 0:
                return asked.size();
            case 1:
                return asked.book().number();
            case 2:
                return asked.lowerBound();
            case 3:
                return asked.upperBound();
            case 4:
                return asked.isLowerIn() ? 1 : 0;
            case 5:
                return asked.isUpperIn() ? 1 : 0;
            case 6:
                return asked.size() == 0 ? NONE : asked.book().keyAt(asked.start());
            case 7:
                return asked.size() == 0 ? NONE : asked.book().keyAt(asked.end() - 1);
            default:
                return asked.book().sum(asked.start(), asked.end());
        }
    }

    public int viewNear(int view, int key, int what) throws IndexOutOfBoundsException, IllegalArgumentException {
        View asked = viewAt(view);
        checkKey(key);
        checkWhat(what, NEAR_KINDS - 1);
        return asked.book().closest(key, what, asked.start(), asked.end());
    }

    public String viewRow(int view) throws IndexOutOfBoundsException {
        View asked = viewAt(view);
        return asked.book().text(asked.start(), asked.end());
    }

    public int ledger(int what) throws IllegalArgumentException {
        checkWhat(what, GREATEST_OF_LEDGER);
        switch (what) {
            case 0:
                return openViews();
            case 1:
                return ongoing == null ? NONE : ongoing.book().number();
            case 2:
                return ongoing != null && ongoing.isBroken() ? 1 : 0;
            case 3:
                return ongoing == null ? NONE : ongoing.keyAtHand();
            case 4:
                return keptKey;
            case 5:
                return keptValue;
            default:
                return refused;
        }
    }

    public boolean isSound() {
        for (int number = 0; number < views.length; number++) {
            if (views[number] != null && !views[number].isSoundView()) {
                return false;
            }
        }
        for (int one = 0; one < books.length; one++) {
            if (!books[one].isInOrder()) {
                return false;
            }
            for (int other = 0; other < books.length; other++) {
                if (books[one].isLike(books[other]) && !books[one].hasSameTotals(books[other])) {
                    return false;
                }
            }
        }
        return true;
    }

    public long digest() {
        long digest = DIGEST_START;
        for (int what = 0; what <= GREATEST_OF_LEDGER; what++) {
            digest = mixed(digest, ledger(what));
        }
        for (int book = 0; book < books.length; book++) {
            digest = mixedWithBook(digest, book);
        }
        for (int view = 0; view < views.length; view++) {
            if (views[view] != null) {
                digest = mixedWithView(digest, view);
            }
        }
        return mixed(digest, isSound() ? 1 : 0);
    }

    private long mixedWithBook(long start, int book) {
        Book mixedIn = bookAt(book);
        long digest = start;
        for (int what = 0; what <= GREATEST_OF_BOOK; what++) {
            digest = mixed(digest, ofBook(book, what));
        }
        for (int place = 0; place < mixedIn.size(); place++) {
            digest = mixed(digest, mixedIn.keyAt(place));
            digest = mixed(digest, mixedIn.valueAt(place));
        }
        for (int what = 0; what < 2 * NEAR_KINDS; what++) {
            digest = mixed(digest, near(book, DIGEST_KEY, what));
        }
        for (int other = 0; other < books.length; other++) {
            digest = mixed(digest, mixedIn.isLike(books[other]) ? 1 : 0);
        }
        return digest;
    }

    private long mixedWithView(long start, int view) {
        View mixedIn = viewAt(view);
        long digest = mixed(start, view);
        for (int what = 0; what <= GREATEST_OF_VIEW; what++) {
            digest = mixed(digest, ofView(view, what));
        }
        for (int what = 0; what < NEAR_KINDS; what++) {
            digest = mixed(digest, viewNear(view, DIGEST_KEY, what));
        }
        return mixed(digest, mixedIn.book().textLength(mixedIn.start(), mixedIn.end()));
    }

    private static long mixed(long digest, long with) {
        return digest * 31 + with;
    }

    // ---- what the calls share

    private Book bookAt(int number) throws IndexOutOfBoundsException {
        if (number < 0 || number >= books.length) {
            throw new IndexOutOfBoundsException("no such book");
        }
        return books[number];
    }

    private View viewAt(int number) throws IndexOutOfBoundsException {
        if (number < 0 || number >= views.length || views[number] == null) {
            throw new IndexOutOfBoundsException("no such view is open");
        }
        return views[number];
    }

    private Book bookToWriteKey(int book, int key) throws IndexOutOfBoundsException, IllegalArgumentException {
        Book written = bookAt(book);
        checkKey(key);
        written.touch();
        return written;
    }

    private Book bookToWritePair(int book, int key, int value)
            throws IndexOutOfBoundsException, IllegalArgumentException {
        Book written = bookAt(book);
        checkKey(key);
        checkValue(value);
        written.touch();
        return written;
    }

    private View viewToWritePair(int view, int key, int value)
            throws IndexOutOfBoundsException, IllegalArgumentException {
        View through = viewAt(view);
        checkKey(key);
        checkValue(value);
        through.book().touch();
        return through;
    }

    private Walk soundWalk() throws IllegalStateException {
        if (ongoing == null || ongoing.isBroken()) {
            throw new IllegalStateException("there is no walk, or it is broken");
        }
        return ongoing;
    }

    private int beginWalk(View range) {
        ongoing = new Walk(range);
        return range.size();
    }

    private int openView(View view) throws IllegalStateException {
        for (int number = 0; number < views.length; number++) {
            if (views[number] == null) {
                views[number] = view;
                return number;
            }
        }
        throw new IllegalStateException("4 views are open");
    }

    private int openViews() {
        int count = 0;
        for (int number = 0; number < views.length; number++) {
            if (views[number] != null) {
                count++;
            }
        }
        return count;
    }

    private int viewsOnto(Book book) {
        int count = 0;
        for (int number = 0; number < views.length; number++) {
            if (views[number] != null && views[number].book() == book) {
                count++;
            }
        }
        return count;
    }

    private int shutViewsOnto(Book book) {
        int count = viewsOnto(book);
        for (int number = 0; number < views.length; number++) {
            if (views[number] != null && views[number].book() == book) {
                views[number] = null;
            }
        }
        return count;
    }

    private void checkViewIsFree() throws IllegalStateException {
        if (openViews() >= views.length) {
            throw new IllegalStateException("4 views are open");
        }
    }

    private static void checkKey(int key) throws IllegalArgumentException {
        if (key < 0 || key >= KEY_LIMIT) {
            throw new IllegalArgumentException("a key is not 0 to 99");
        }
    }

    private static void checkValue(int value) throws IllegalArgumentException {
        if (value < -GREATEST_VALUE || value > GREATEST_VALUE) {
            throw new IllegalArgumentException("a value is not -9999 to 9999");
        }
    }

    private static void checkWhat(int what, int greatest) throws IllegalArgumentException {
        if (what < 0 || what > greatest) {
            throw new IllegalArgumentException("what is not one of those told");
        }
    }

    private static void checkUnlike(int one, int other) throws IllegalArgumentException {
        if (one == other) {
            throw new IllegalArgumentException("both books are the same");
        }
    }

    /** The pairs of a book by its order, each at the index that is its place. */
    private static final class Book {

        private final int number;
        private final int[] keys;
        private final int[] values;
        private int order;
        private int size;

        /** How many calls came that may write here: a walk has its pair at hand only till the next one. */
        private int touches;

        /** How often keys came or went: a walk is broken when that was not its own doing. */
        private int keyChanges;

        Book(int number) {
            this.number = number;
            keys = new int[KEY_LIMIT];
            values = new int[KEY_LIMIT];
            order = number;
        }

        int number() {
            return number;
        }

        int order() {
            return order;
        }

        int size() {
            return size;
        }

        int touches() {
            return touches;
        }

        int keyChanges() {
            return keyChanges;
        }

        void touch() {
            touches++;
        }

        boolean isAhead(int key, int other) {
            return weight(key) < weight(other);
        }

        /** A number from 0 on that rises by the order of this book; no two keys have the same. */
        int weight(int key) {
            switch (order) {
                case 0:
                    return key;
                case 1:
                    return key % 2 == 0 ? KEY_LIMIT - key : 2 * KEY_LIMIT - key;
                default:
                    // Names filled up to four letters compare as numbers; of like ones the shorter name is ahead.
                    int letters = key < 4 ? 1 : key < 16 ? 2 : key < 64 ? 3 : 4;
                    int filledUp = key << 2 * (4 - letters);
                    return filledUp * 4 + letters - 1;
            }
        }

        /** How many keys have a smaller weight. */
        int placeOfWeight(int weight) {
            int low = 0;
            int high = size;
            // Each round halves what is left; they are counted so that an end can be seen.
            for (int round = 0; round < KEY_LIMIT && low < high; round++) {
                int middle = (low + high) / 2;
                if (weight(keys[middle]) < weight) {
                    low = middle + 1;
                } else {
                    high = middle;
                }
            }
            return low;
        }

        /** How many keys are ahead of this one. */
        int placeOf(int key) {
            return placeOfWeight(weight(key));
        }

        /** How many keys are not behind this one. */
        int placeBehind(int key) {
            return placeOfWeight(weight(key) + 1);
        }

        private boolean isPlace(int place) {
            return place >= 0 && place < size;
        }

        int keyAt(int place) {
            return isPlace(place) ? keys[place] : NONE;
        }

        int valueAt(int place) {
            return isPlace(place) ? values[place] : NONE;
        }

        boolean holds(int key) {
            return valueOf(key) != NONE;
        }

        int valueOf(int key) {
            int place = placeOf(key);
            return keyAt(place) == key ? valueAt(place) : NONE;
        }

        /** The first place with this value, or NONE. */
        int firstPlaceOfValue(int value) {
            for (int place = 0; place < size; place++) {
                if (values[place] == value) {
                    return place;
                }
            }
            return NONE;
        }

        int countOfValue(int value) {
            int count = 0;
            for (int place = 0; place < size; place++) {
                if (values[place] == value) {
                    count++;
                }
            }
            return count;
        }

        int unlikeValues() {
            int count = 0;
            for (int place = 0; place < size; place++) {
                if (firstPlaceOfValue(values[place]) == place) {
                    count++;
                }
            }
            return count;
        }

        int sum(int start, int end) {
            int sum = 0;
            for (int place = start; place < end; place++) {
                if (isPlace(place)) {
                    sum += values[place];
                }
            }
            return sum;
        }

        /** LOWER, FLOOR, CEILING or HIGHER of a key, of the pairs from the place start on to that ahead of end. */
        int closest(int key, int what, int start, int end) {
            int place = placeOf(key);
            boolean isThere = keyAt(place) == key && place >= start && place < end;
            if (isThere && (what == FLOOR || what == CEILING)) {
                return key;
            }
            if (what == LOWER || what == FLOOR) {
                int lower = Math.min(place, end) - 1;
                return lower >= start ? keyAt(lower) : NONE;
            }
            int higher = Math.max(placeBehind(key), start);
            return higher < end ? keyAt(higher) : NONE;
        }

        /** Writes the pair and tells the value that the key had before, or NONE. */
        int enter(int key, int value) {
            int place = placeOf(key);
            if (isPlace(place) && keys[place] == key) {
                int before = values[place];
                values[place] = value;
                return before;
            }
            insert(place, key, value);
            return NONE;
        }

        private void insert(int place, int key, int value) {
            if (place < 0 || place > size || size >= keys.length) {
                return;
            }
            System.arraycopy(keys, place, keys, place + 1, size - place);
            System.arraycopy(values, place, values, place + 1, size - place);
            keys[place] = key;
            values[place] = value;
            size++;
            keyChanges++;
        }

        /** Strikes the key and tells the value that it had, or NONE. */
        int removeKey(int key) {
            int place = placeOf(key);
            if (keyAt(place) != key) {
                return NONE;
            }
            int before = valueAt(place);
            removeRange(place, place + 1);
            return before;
        }

        /** Strikes the pair at a place and tells its key, or NONE. */
        int removeAt(int place) {
            int key = keyAt(place);
            if (key != NONE) {
                removeRange(place, place + 1);
            }
            return key;
        }

        /** Strikes the pairs from the place start on to that ahead of end and tells how many. */
        int removeRange(int start, int end) {
            if (start < 0 || start >= end || end > size) {
                return 0;
            }
            System.arraycopy(keys, end, keys, start, size - end);
            System.arraycopy(values, end, values, start, size - end);
            size -= end - start;
            keyChanges++;
            return end - start;
        }

        /** Merges the key with the value and tells the value that it has then, or NONE. */
        int putTogether(int key, int value) {
            if (!holds(key)) {
                enter(key, value);
                return value;
            }
            int sum = bounded(valueOf(key) + value);
            return enterUnlessZero(key, sum);
        }

        int growKey(int key) {
            if (!holds(key) && key % 7 != 0) {
                enter(key, 3 * key - 50);
            }
            return valueOf(key);
        }

        int halveKey(int key) {
            return holds(key) ? enterUnlessZero(key, valueOf(key) / 2) : NONE;
        }

        int doubleKey(int key) {
            int before = valueOf(key);
            if (before == NONE) {
                enter(key, key);
            } else if (before > TWICE_LIMIT || before < -TWICE_LIMIT) {
                removeKey(key);
            } else {
                enter(key, 2 * before);
            }
            return valueOf(key);
        }

        private int enterUnlessZero(int key, int value) {
            if (value == 0) {
                removeKey(key);
                return NONE;
            }
            enter(key, value);
            return value;
        }

        /** Tells how many values are other ones by that. */
        int raiseAll(int by) {
            int changed = 0;
            for (int place = 0; place < size; place++) {
                int raised = bounded(values[place] + by);
                if (raised != values[place]) {
                    values[place] = raised;
                    changed++;
                }
            }
            return changed;
        }

        int removeMultiples(int by) {
            int before = size;
            for (int place = before - 1; place >= 0; place--) {
                if (by != 0 && valueAt(place) % by == 0) {
                    removeAt(place);
                }
            }
            return before - size;
        }

        int removeByOther(Book other, boolean isCommon) {
            int before = size;
            for (int place = before - 1; place >= 0; place--) {
                if (other.holds(keyAt(place)) == isCommon) {
                    removeAt(place);
                }
            }
            return before - size;
        }

        void enterAll(Book source) {
            for (int place = 0; place < source.size(); place++) {
                enter(source.keyAt(place), source.valueAt(place));
            }
        }

        void becomeLike(Book source) {
            removeRange(0, size);
            order = source.order();
            enterAll(source);
        }

        boolean isLike(Book other) {
            if (size != other.size()) {
                return false;
            }
            for (int place = 0; place < size; place++) {
                if (other.valueOf(keys[place]) != values[place]) {
                    return false;
                }
            }
            return true;
        }

        boolean hasSameTotals(Book other) {
            return size == other.size() && sum(0, size) == other.sum(0, other.size());
        }

        /** Whether each key is behind the one ahead, that one is its LOWER, and its PLACE is right. */
        boolean isInOrder() {
            for (int place = 0; place < size; place++) {
                int key = keyAt(place);
                int ahead = keyAt(place - 1);
                if (place > 0 && !isAhead(ahead, key)) {
                    return false;
                }
                if (closest(key, LOWER, 0, size) != ahead || placeOf(key) != place) {
                    return false;
                }
            }
            return true;
        }

        String text(int start, int end) {
            StringBuilder text = new StringBuilder();
            text.append('{');
            for (int place = start; place < end; place++) {
                if (place > start) {
                    text.append(", ");
                }
                text.append(keyAt(place)).append('=').append(valueAt(place));
            }
            text.append('}');
            return text.toString();
        }

        /** How many signs text() has, without making it: the digest asks that of each view. */
        int textLength(int start, int end) {
            int length = 2;
            for (int place = start; place < end; place++) {
                length += place > start ? 2 : 0;
                length += signs(keyAt(place)) + 1 + signs(valueAt(place));
            }
            return length;
        }

        /** How many signs a key or a value has. */
        private static int signs(int number) {
            int magnitude = Math.abs(number);
            int digits = magnitude < 10 ? 1 : magnitude < 100 ? 2 : magnitude < 1000 ? 3 : 4;
            return number < 0 ? digits + 1 : digits;
        }

        private static int bounded(int value) {
            return Math.max(-GREATEST_VALUE, Math.min(GREATEST_VALUE, value));
        }
    }

    /** A part of a book. It never changes, so that a walk may go on in it when its number is free again. */
    private static final class View {

        private final Book book;

        /** The bounds; NONE where there is none. */
        private final int lower;
        private final int upper;
        private final boolean isLowerIn;
        private final boolean isUpperIn;

        /** The keys within are those with a weight from the first of these on, below the second. */
        private final int startWeight;
        private final int endWeight;

        View(Book book, int lower, boolean isLowerIn, int upper, boolean isUpperIn) {
            this.book = book;
            this.lower = lower;
            this.isLowerIn = isLowerIn;
            this.upper = upper;
            this.isUpperIn = isUpperIn;
            // A book gets another order only by copy(), which shuts its views and ends its walk: the weights stay right.
            int start = lower == NONE ? 0 : book.weight(lower) + (isLowerIn ? 0 : 1);
            int end = upper == NONE ? WEIGHT_LIMIT : book.weight(upper) + (isUpperIn ? 1 : 0);
            startWeight = start;
            endWeight = Math.max(start, end);
        }

        Book book() {
            return book;
        }

        int lowerBound() {
            return lower;
        }

        int upperBound() {
            return upper;
        }

        boolean isLowerIn() {
            return isLowerIn;
        }

        boolean isUpperIn() {
            return isUpperIn;
        }

        /** The place of the first pair that it shows. */
        int start() {
            return book.placeOfWeight(startWeight);
        }

        /** The place behind that of the last pair that it shows. */
        int end() {
            return book.placeOfWeight(endWeight);
        }

        int size() {
            return end() - start();
        }

        boolean isWithin(int key) {
            int weight = book.weight(key);
            return weight >= startWeight && weight < endWeight;
        }

        /** Whether it shows just the pairs whose keys are within. */
        boolean isSoundView() {
            int start = start();
            int end = end();
            for (int place = 0; place < book.size(); place++) {
                boolean isShown = place >= start && place < end;
                if (isWithin(book.keyAt(place)) != isShown) {
                    return false;
                }
            }
            return true;
        }
    }

    /** A walk through a view; one through a whole book goes through a view without bounds. */
    private static final class Walk {

        private final View range;

        /** The key of the last step, also if it was dropped; NONE ahead of all pairs. */
        private int position;

        private boolean canDrop;

        /** The touches of the book at the last step. */
        private int touches;

        /** The key changes of the book, as far as this walk knows them. */
        private int keyChanges;

        Walk(View range) {
            this.range = range;
            position = NONE;
            keyChanges = range.book().keyChanges();
        }

        Book book() {
            return range.book();
        }

        boolean isBroken() {
            return keyChanges != book().keyChanges();
        }

        boolean canDrop() {
            return canDrop;
        }

        int keyAtHand() {
            return canDrop && touches == book().touches() ? position : NONE;
        }

        /** Steps to the next pair and tells its key; tells NONE and stays if there is none. */
        int advance() {
            int next = position == NONE ? range.start() : book().placeBehind(position);
            if (next >= range.end()) {
                return NONE;
            }
            position = book().keyAt(next);
            canDrop = true;
            touches = book().touches();
            return position;
        }

        void dropLastStep() {
            book().removeKey(position);
            canDrop = false;
            keyChanges = book().keyChanges();
        }
    }
}
