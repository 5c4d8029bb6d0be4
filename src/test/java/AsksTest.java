/** Promises 38 to 54: what is asked of a book, of a view, and of all. */
public final class AsksTest {

    private static final Runs RUNS = new Runs();

    private static final String PAIRS = """
            put(1, 8, 5) = NONE
            put(1, 4, 0) = NONE
            put(1, 5, -7) = NONE
            put(1, 3, 5) = NONE
            """;

    public static void main(String[] args) {
        gets();
        values();
        ofBooks();
        nears();
        places();
        rowsAndSame();
        viewGetsAndRows();
        ofViews();
        viewNears();
        ledgers();
        sound();
        digests();
        refusals();
        RUNS.end();
    }

    private static void gets() {
        RUNS.run("promises 38 to 40", PAIRS + """
            get(1, 8) = 5
            get(1, 4) = 0
            get(1, 6) = NONE
            get(0, 8) = NONE
            getOr(1, 8, 9999) = 5
            getOr(1, 4, 9) = 0
            getOr(1, 6, -9999) = -9999
            has(1, 4) = true
            has(1, 6) = false
            has(2, 4) = false
            row(1) = {8=5, 4=0, 5=-7, 3=5}
            """);
    }

    private static void values() {
        RUNS.run("promise 41", PAIRS + """
            hasValue(1, 5) = true
            hasValue(1, 0) = true
            hasValue(1, 1) = false
            hasValue(0, 0) = false
            hasValue(1, -9999) = false
            """);
    }

    private static void ofBooks() {
        RUNS.run("promise 42", PAIRS + """
            ofBook(1, 0) = 4
            ofBook(1, 1) = 1
            ofBook(1, 2) = 8
            ofBook(1, 3) = 5
            ofBook(1, 4) = 3
            ofBook(1, 5) = 5
            ofBook(1, 6) = 3
            ofBook(1, 7) = 3
            ofBook(1, 8) = 0
            head(1, 3, true) = 0
            head(0, 3, true) = 1
            tail(1, 3, true) = 2
            ofBook(1, 8) = 2
            ofBook(0, 8) = 1
            ofBook(2, 8) = 0
            ofBook(0, 0) = 0
            ofBook(0, 2) = NONE
            ofBook(0, 3) = NONE
            ofBook(0, 4) = NONE
            ofBook(0, 5) = NONE
            ofBook(0, 6) = 0
            ofBook(0, 7) = 0
            """);
        Rangeledger ledger = new Rangeledger();
        for (int key = 0; key < 100; key++) {
            ledger.put(0, key, -9999);
        }
        RUNS.check("promise 42, the least sum", ledger.ofBook(0, 6), -999900);
        RUNS.check("promise 42, all pairs", ledger.ofBook(0, 0), 100);
        RUNS.check("promise 42, one value", ledger.ofBook(0, 7), 1);
    }

    private static void nears() {
        RUNS.run("promise 43", PAIRS + """
            near(1, 4, 0) = 8
            near(1, 4, 1) = 4
            near(1, 4, 2) = 4
            near(1, 4, 3) = 5
            near(1, 4, 4) = 5
            near(1, 4, 5) = 0
            near(1, 4, 6) = 0
            near(1, 4, 7) = -7
            near(1, 6, 0) = 8
            near(1, 6, 1) = 8
            near(1, 6, 2) = 4
            near(1, 6, 3) = 4
            near(1, 6, 5) = 5
            near(1, 6, 6) = 0
            near(1, 98, 0) = NONE
            near(1, 98, 1) = NONE
            near(1, 98, 4) = NONE
            near(1, 98, 5) = NONE
            near(1, 98, 2) = 8
            near(1, 1, 3) = NONE
            near(1, 1, 2) = NONE
            near(1, 1, 6) = NONE
            near(1, 1, 7) = NONE
            near(1, 1, 1) = 3
            near(1, 8, 0) = NONE
            near(1, 3, 3) = NONE
            near(0, 50, 1) = NONE
            near(0, 50, 7) = NONE
            """);
        RUNS.run("promise 43, keys side by side", """
            put(0, 4, 40) = NONE
            put(0, 5, 50) = NONE
            put(0, 6, 60) = NONE
            near(0, 5, 0) = 4
            near(0, 5, 3) = 6
            near(0, 4, 3) = 5
            near(0, 6, 0) = 5
            near(0, 4, 7) = 50
            near(0, 7, 1) = 6
            near(0, 3, 2) = 4
            put(2, 4, 40) = NONE
            put(2, 16, 50) = NONE
            put(2, 64, 60) = NONE
            put(2, 65, 60) = NONE
            near(2, 16, 0) = 4
            near(2, 16, 3) = 64
            near(2, 64, 3) = 65
            near(2, 1, 3) = 4
            near(2, 17, 1) = 65
            """);
    }

    private static void places() {
        RUNS.run("promises 44 and 45", PAIRS + """
            place(1, 98) = 0
            place(1, 8) = 0
            place(1, 6) = 1
            place(1, 4) = 1
            place(1, 0) = 2
            place(1, 99) = 2
            place(1, 3) = 3
            place(1, 1) = 4
            place(0, 50) = 0
            at(1, 0) = 8
            at(1, 3) = 3
            at(1, 4) = NONE
            at(1, 2147483647) = NONE
            at(0, 0) = NONE
            """);
    }

    private static void rowsAndSame() {
        RUNS.run("promises 46 and 47", PAIRS + """
            row(1) = {8=5, 4=0, 5=-7, 3=5}
            row(0) = {}
            same(0, 2) = true
            same(1, 1) = true
            same(0, 1) = false
            same(1, 0) = false
            pour(1, 2) = 4
            row(2) = {4=0, 5=-7, 8=5, 3=5}
            same(1, 2) = true
            same(2, 1) = true
            put(2, 4, 1) = 0
            same(1, 2) = false
            put(2, 4, 0) = 1
            put(2, 0, 0) = NONE
            same(1, 2) = false
            same(2, 1) = false
            strike(2, 3) = 5
            same(1, 2) = false
            put(0, 3, 3) = NONE
            put(0, 5, 5) = NONE
            clear(1) = 4
            put(1, 3, 3) = NONE
            put(1, 5, 6) = NONE
            same(0, 1) = false
            same(1, 0) = false
            put(1, 5, 5) = 6
            put(1, 3, 4) = 3
            same(0, 1) = false
            same(1, 0) = false
            put(1, 3, 3) = 4
            same(0, 1) = true
            strike(1, 3) = 3
            put(1, 1, 3) = NONE
            same(0, 1) = false
            same(1, 0) = false
            clear(0) = 2
            put(0, 99, -9999) = NONE
            row(0) = {99=-9999}
            """);
    }

    private static void viewGetsAndRows() {
        RUNS.run("promises 48 and 51", PAIRS + """
            sub(1, 4, true, 3, false) = 0
            viewGet(0, 4) = 0
            viewGet(0, 5) = -7
            viewGet(0, 3) = NONE
            viewGet(0, 8) = NONE
            viewGet(0, 7) = NONE
            viewRow(0) = {4=0, 5=-7}
            put(1, 7, 70) = NONE
            viewGet(0, 7) = 70
            viewRow(0) = {4=0, 7=70, 5=-7}
            head(1, 8, false) = 1
            viewRow(1) = {}
            """);
    }

    private static void ofViews() {
        RUNS.run("promise 49", PAIRS + """
            sub(1, 4, true, 3, false) = 0
            ofView(0, 0) = 2
            ofView(0, 1) = 1
            ofView(0, 2) = 4
            ofView(0, 3) = 3
            ofView(0, 4) = 1
            ofView(0, 5) = 0
            ofView(0, 6) = 4
            ofView(0, 7) = 5
            ofView(0, 8) = -7
            head(0, 0, true) = 1
            ofView(1, 0) = 0
            ofView(1, 1) = 0
            ofView(1, 2) = NONE
            ofView(1, 3) = 0
            ofView(1, 4) = 0
            ofView(1, 5) = 1
            ofView(1, 6) = NONE
            ofView(1, 7) = NONE
            ofView(1, 8) = 0
            tail(2, 0, true) = 2
            ofView(2, 2) = 0
            ofView(2, 3) = NONE
            ofView(2, 4) = 1
            ofView(2, 5) = 0
            """);
    }

    private static void viewNears() {
        RUNS.run("promise 50", PAIRS + """
            sub(1, 8, false, 3, false) = 0
            viewNear(0, 98, 0) = NONE
            viewNear(0, 98, 1) = NONE
            viewNear(0, 98, 2) = 4
            viewNear(0, 98, 3) = 4
            viewNear(0, 8, 1) = NONE
            viewNear(0, 8, 2) = 4
            viewNear(0, 4, 0) = NONE
            viewNear(0, 4, 1) = 4
            viewNear(0, 4, 2) = 4
            viewNear(0, 4, 3) = 5
            viewNear(0, 5, 0) = 4
            viewNear(0, 5, 3) = NONE
            viewNear(0, 3, 0) = 5
            viewNear(0, 3, 1) = 5
            viewNear(0, 3, 2) = NONE
            viewNear(0, 3, 3) = NONE
            viewNear(0, 1, 0) = 5
            viewNear(0, 1, 1) = 5
            viewNear(0, 1, 2) = NONE
            viewNear(0, 0, 1) = 4
            viewNear(0, 0, 2) = 5
            """);
    }

    private static void ledgers() {
        RUNS.run("promise 52", PAIRS + """
            ledger(0) = 0
            head(1, 3, true) = 0
            head(1, 3, true) = 1
            ledger(0) = 2
            ledger(1) = NONE
            walk(1) = 4
            ledger(1) = 1
            ledger(3) = NONE
            step() = 8
            ledger(3) = 8
            ledger(2) = 0
            poll(1, true) = 3
            ledger(2) = 1
            ledger(3) = NONE
            keep(1, true) = 5
            ledger(4) = 5
            ledger(5) = -7
            ledger(6) = 0
            knock() = 1
            ledger(6) = 1
            isSound() = true
            """);
    }

    private static void sound() {
        RUNS.run("promise 53", PAIRS + """
            isSound() = true
            sub(1, 4, true, 5, false) = 0
            sub(1, 4, false, 3, false) = 1
            sub(1, 4, true, 4, false) = 2
            head(1, 6, true) = 3
            isSound() = true
            viewRow(0) = {4=0}
            viewRow(1) = {5=-7}
            pour(1, 2) = 4
            isSound() = true
            copy(1, 0) = 0
            isSound() = true
            shut(3) = 1
            tail(1, 6, true) = 3
            isSound() = true
            viewClear(1) = 1
            isSound() = true
            """);
    }

    /** The digest, computed from what the other calls answer. */
    static long digestOf(Rangeledger ledger) {
        java.util.ArrayList<Long> told = new java.util.ArrayList<>();
        for (int what = 0; what < 7; what++) {
            told.add((long) ledger.ledger(what));
        }
        for (int book = 0; book < 3; book++) {
            for (int what = 0; what < 9; what++) {
                told.add((long) ledger.ofBook(book, what));
            }
            for (int place = 0; place < ledger.ofBook(book, 0); place++) {
                told.add((long) ledger.at(book, place));
                told.add((long) ledger.get(book, ledger.at(book, place)));
            }
            for (int what = 0; what < 8; what++) {
                told.add((long) ledger.near(book, 50, what));
            }
            for (int other = 0; other < 3; other++) {
                told.add(ledger.same(book, other) ? 1L : 0L);
            }
        }
        for (int view = 0; view < 4; view++) {
            addView(told, ledger, view);
        }
        told.add(ledger.isSound() ? 1L : 0L);
        long digest = 6007;
        for (long one : told) {
            digest = digest * 31 + one;
        }
        return digest;
    }

    private static void addView(java.util.ArrayList<Long> told, Rangeledger ledger, int view) {
        try {
            ledger.ofView(view, 0);
        } catch (IndexOutOfBoundsException e) {
            return;
        }
        told.add((long) view);
        for (int what = 0; what < 9; what++) {
            told.add((long) ledger.ofView(view, what));
        }
        for (int what = 0; what < 4; what++) {
            told.add((long) ledger.viewNear(view, 50, what));
        }
        told.add((long) ledger.viewRow(view).length());
    }

    private static void digests() {
        RUNS.check("promise 54, new", new Rangeledger().digest(), -3306767838265812558L);
        RUNS.check("promise 54, new, by its calls", new Rangeledger().digest(), digestOf(new Rangeledger()));
        Rangeledger ledger = RUNS.run("promise 54", PAIRS + """
            put(0, 50, 1000) = NONE
            put(0, 49, -1000) = NONE
            put(0, 9, -9999) = NONE
            put(2, 52, 10) = NONE
            put(2, 1, -10) = NONE
            put(2, 2, 100) = NONE
            put(2, 3, 9) = NONE
            put(0, 0, 0) = NONE
            put(0, 10, 999) = NONE
            put(0, 11, -99) = NONE
            head(0, 50, false) = 0
            head(0, 50, true) = 1
            tail(2, 1, true) = 2
            sub(1, 99, true, 1, true) = 3
            shut(1) = 6
            walk(1) = 4
            step() = 8
            keep(2, true) = 52
            knock() = 1
            """);
        RUNS.check("promise 54, by its calls", ledger.digest(), digestOf(ledger));
        RUNS.goOn(ledger, "promise 54", "copy(1, 2) = 1\nhead(2, 50, true) = 1");
        RUNS.check("promise 54, like books", ledger.digest(), digestOf(ledger));
        RUNS.check("promise 54, twice the same", ledger.digest(), ledger.digest());
    }

    private static void refusals() {
        RUNS.run("promises 38 to 52 refused", PAIRS + """
            head(1, 3, true) = 0
            get(3, 100) ! IndexOutOfBoundsException
            get(-1, 1) ! IndexOutOfBoundsException
            get(0, 100) ! IllegalArgumentException
            get(0, -1) ! IllegalArgumentException
            getOr(3, 100, 10000) ! IndexOutOfBoundsException
            getOr(0, 100, 1) ! IllegalArgumentException
            getOr(0, -1, 1) ! IllegalArgumentException
            getOr(1, 4, 10000) ! IllegalArgumentException
            getOr(1, 4, -10000) ! IllegalArgumentException
            has(3, 100) ! IndexOutOfBoundsException
            has(0, 100) ! IllegalArgumentException
            has(0, -1) ! IllegalArgumentException
            hasValue(3, 10000) ! IndexOutOfBoundsException
            hasValue(0, 10000) ! IllegalArgumentException
            hasValue(0, -10000) ! IllegalArgumentException
            ofBook(3, 9) ! IndexOutOfBoundsException
            ofBook(0, 9) ! IllegalArgumentException
            ofBook(0, -1) ! IllegalArgumentException
            near(3, 100, 8) ! IndexOutOfBoundsException
            near(0, 100, 0) ! IllegalArgumentException
            near(0, -1, 0) ! IllegalArgumentException
            near(0, 0, 8) ! IllegalArgumentException
            near(0, 0, -1) ! IllegalArgumentException
            place(3, 100) ! IndexOutOfBoundsException
            place(0, 100) ! IllegalArgumentException
            place(0, -1) ! IllegalArgumentException
            at(3, -1) ! IndexOutOfBoundsException
            at(0, -1) ! IllegalArgumentException
            at(0, -2147483648) ! IllegalArgumentException
            row(3) ! IndexOutOfBoundsException
            row(-1) ! IndexOutOfBoundsException
            same(3, 0) ! IndexOutOfBoundsException
            same(0, 3) ! IndexOutOfBoundsException
            same(-1, 0) ! IndexOutOfBoundsException
            same(0, -1) ! IndexOutOfBoundsException
            viewGet(1, 100) ! IndexOutOfBoundsException
            viewGet(4, 1) ! IndexOutOfBoundsException
            viewGet(0, 100) ! IllegalArgumentException
            viewGet(0, -1) ! IllegalArgumentException
            ofView(1, 9) ! IndexOutOfBoundsException
            ofView(-1, 0) ! IndexOutOfBoundsException
            ofView(0, 9) ! IllegalArgumentException
            ofView(0, -1) ! IllegalArgumentException
            viewNear(1, 100, 4) ! IndexOutOfBoundsException
            viewNear(4, 1, 1) ! IndexOutOfBoundsException
            viewNear(0, 100, 1) ! IllegalArgumentException
            viewNear(0, -1, 1) ! IllegalArgumentException
            viewNear(0, 1, 4) ! IllegalArgumentException
            viewNear(0, 1, -1) ! IllegalArgumentException
            viewRow(1) ! IndexOutOfBoundsException
            viewRow(-1) ! IndexOutOfBoundsException
            viewRow(4) ! IndexOutOfBoundsException
            ledger(7) ! IllegalArgumentException
            ledger(-1) ! IllegalArgumentException
            """);
    }
}
