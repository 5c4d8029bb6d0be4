/** Promises 1 to 16: a new object, writing in a book. */
public final class WritingTest {

    private static final Runs RUNS = new Runs();

    public static void main(String[] args) {
        newObject();
        putAndAbsent();
        replaceAndSwap();
        strikes();
        merges();
        growsAndHalves();
        doubles();
        polls();
        raises();
        sifts();
        strikesOfValues();
        clears();
        refusals();
        RUNS.end();
    }

    private static void newObject() {
        RUNS.run("promise 1", """
            row(0) = {}
            row(1) = {}
            row(2) = {}
            ofBook(0, 1) = 0
            ofBook(1, 1) = 1
            ofBook(2, 1) = 2
            ofBook(0, 0) = 0
            ledger(0) = 0
            ledger(1) = NONE
            ledger(2) = 0
            ledger(3) = NONE
            ledger(4) = NONE
            ledger(5) = NONE
            ledger(6) = 0
            isSound() = true
            """);
    }

    private static void putAndAbsent() {
        RUNS.run("promise 2", """
            put(0, 99, 9999) = NONE
            put(0, 0, -9999) = NONE
            put(0, 50, 0) = NONE
            row(0) = {0=-9999, 50=0, 99=9999}
            put(0, 50, 1) = 0
            put(0, 50, 1) = 1
            row(0) = {0=-9999, 50=1, 99=9999}
            row(1) = {}
            put(1, 1, 1) = NONE
            put(1, 3, 3) = NONE
            put(1, 0, 0) = NONE
            put(1, 98, 98) = NONE
            put(1, 99, 99) = NONE
            row(1) = {98=98, 0=0, 99=99, 3=3, 1=1}
            """);
        RUNS.run("promise 3", """
            putAbsent(1, 7, 0) = NONE
            putAbsent(1, 7, 5) = 0
            putAbsent(1, 7, 0) = 0
            row(1) = {7=0}
            row(0) = {}
            """);
        // 0 to 99 by their names, as Java itself compares the numbers' texts to the base 4.
        Rangeledger ledger = new Rangeledger();
        java.util.TreeMap<String, Integer> byName = new java.util.TreeMap<>();
        for (int key = 99; key >= 0; key--) {
            ledger.put(2, key, key);
            byName.put(Integer.toString(key, 4), key);
        }
        int place = 0;
        for (int key : byName.values()) {
            RUNS.check("order 2 at " + place, ledger.at(2, place), key);
            RUNS.check("order 2 place of " + key, ledger.place(2, key), place);
            place++;
        }
        RUNS.check("all keys sound", ledger.isSound(), true);
        RUNS.check("all keys again", ledger.put(2, 50, 1), 50);
    }

    private static void replaceAndSwap() {
        RUNS.run("promise 4", """
            replace(2, 4, 3) = NONE
            row(2) = {}
            put(2, 4, 0) = NONE
            replace(2, 4, 3) = 0
            replace(2, 4, 3) = 3
            row(2) = {4=3}
            """);
        RUNS.run("promise 5", """
            swap(0, 4, 0, 3) = false
            row(0) = {}
            put(0, 4, 0) = NONE
            swap(0, 4, 1, 3) = false
            row(0) = {4=0}
            swap(0, 4, 0, 3) = true
            swap(0, 4, 3, 3) = true
            row(0) = {4=3}
            """);
    }

    private static void strikes() {
        RUNS.run("promise 6", """
            strike(0, 4) = NONE
            put(0, 4, 0) = NONE
            put(0, 5, 1) = NONE
            put(1, 4, 7) = NONE
            strike(0, 4) = 0
            strike(0, 4) = NONE
            row(0) = {5=1}
            row(1) = {4=7}
            """);
        RUNS.run("promise 7", """
            strikePair(0, 4, 0) = false
            put(0, 4, 0) = NONE
            put(0, 5, 1) = NONE
            strikePair(0, 4, 1) = false
            row(0) = {4=0, 5=1}
            strikePair(0, 4, 0) = true
            row(0) = {5=1}
            strikePair(0, 4, 0) = false
            """);
    }

    private static void merges() {
        RUNS.run("promise 8", """
            merge(0, 4, 0) = 0
            row(0) = {4=0}
            merge(0, 4, 0) = NONE
            row(0) = {}
            merge(0, 4, 7) = 7
            merge(0, 4, -3) = 4
            merge(0, 4, -4) = NONE
            row(0) = {}
            merge(0, 4, 9999) = 9999
            merge(0, 4, 9999) = 9999
            merge(0, 4, -9999) = NONE
            merge(0, 4, -9999) = -9999
            merge(0, 4, -1) = -9999
            merge(0, 4, 9998) = -1
            row(0) = {4=-1}
            """);
    }

    private static void growsAndHalves() {
        RUNS.run("promise 9", """
            grow(0, 0) = NONE
            grow(0, 7) = NONE
            grow(0, 98) = NONE
            row(0) = {}
            grow(0, 1) = -47
            grow(0, 99) = 247
            grow(0, 16) = -2
            put(0, 7, 3) = NONE
            grow(0, 7) = 3
            put(0, 1, 0) = -47
            grow(0, 1) = 0
            row(0) = {1=0, 7=3, 16=-2, 99=247}
            """);
        RUNS.run("promise 10", """
            halve(0, 3) = NONE
            put(0, 3, 7) = NONE
            halve(0, 3) = 3
            halve(0, 3) = 1
            halve(0, 3) = NONE
            row(0) = {}
            put(0, 3, -7) = NONE
            halve(0, 3) = -3
            halve(0, 3) = -1
            halve(0, 3) = NONE
            put(0, 3, 0) = NONE
            halve(0, 3) = NONE
            row(0) = {}
            """);
    }

    private static void doubles() {
        RUNS.run("promise 11", """
            twice(0, 0) = 0
            twice(0, 0) = 0
            twice(0, 30) = 30
            twice(0, 30) = 60
            put(0, 5, 500) = NONE
            twice(0, 5) = 1000
            twice(0, 5) = NONE
            put(0, 5, -500) = NONE
            twice(0, 5) = -1000
            put(0, 5, 501) = -1000
            twice(0, 5) = NONE
            put(0, 5, -501) = NONE
            twice(0, 5) = NONE
            row(0) = {0=0, 30=60}
            """);
    }

    private static void polls() {
        RUNS.run("promise 12", """
            poll(1, true) = NONE
            poll(1, false) = NONE
            put(1, 1, 1) = NONE
            put(1, 2, 2) = NONE
            put(1, 3, 3) = NONE
            put(1, 4, 4) = NONE
            poll(1, false) = 4
            poll(1, true) = 1
            row(1) = {2=2, 3=3}
            poll(1, true) = 3
            poll(1, true) = 2
            poll(1, true) = NONE
            """);
    }

    private static void raises() {
        RUNS.run("promise 13", """
            raise(0, 5) = 0
            put(0, 1, 9999) = NONE
            put(0, 2, 9998) = NONE
            put(0, 3, -5) = NONE
            put(0, 4, -9999) = NONE
            raise(0, 0) = 0
            raise(0, 5) = 3
            row(0) = {1=9999, 2=9999, 3=0, 4=-9994}
            raise(0, -999) = 4
            row(0) = {1=9000, 2=9000, 3=-999, 4=-9999}
            raise(0, 999) = 4
            row(0) = {1=9999, 2=9999, 3=0, 4=-9000}
            """);
    }

    private static void sifts() {
        RUNS.run("promise 14", """
            sift(2, 2) = 0
            put(2, 1, 0) = NONE
            put(2, 2, -6) = NONE
            put(2, 3, 7) = NONE
            put(2, 4, 6) = NONE
            put(2, 5, 99) = NONE
            put(2, 6, 6) = NONE
            sift(2, 6) = 4
            row(2) = {5=99, 3=7}
            sift(2, 2) = 0
            sift(2, 99) = 1
            row(2) = {3=7}
            """);
    }

    private static void strikesOfValues() {
        RUNS.run("promise 15", """
            strikeValue(0, 4) = false
            put(0, 1, 4) = NONE
            put(0, 2, 5) = NONE
            put(0, 9, 4) = NONE
            put(1, 2, 5) = NONE
            strikeValue(0, 4) ! IllegalStateException
            strikeValue(0, 3) = false
            strikeValue(0, 5) = true
            row(0) = {1=4, 9=4}
            row(1) = {2=5}
            strike(0, 1) = 4
            strikeValue(0, 4) = true
            row(0) = {}
            """);
    }

    private static void clears() {
        RUNS.run("promise 16", """
            clear(0) = 0
            put(0, 1, 4) = NONE
            put(0, 2, 5) = NONE
            put(1, 2, 5) = NONE
            clear(0) = 2
            clear(0) = 0
            row(0) = {}
            row(1) = {2=5}
            """);
    }

    /** The book is told to be wrong ahead of a key or a value that is wrong, too. */
    private static void refusals() {
        RUNS.run("promises 2 to 16 refused", """
            put(0, 1, 4) = NONE
            put(0, 2, 4) = NONE
            put(3, 100, 10000) ! IndexOutOfBoundsException
            put(-1, 5, 5) ! IndexOutOfBoundsException
            put(0, 100, 5) ! IllegalArgumentException
            put(0, -1, 5) ! IllegalArgumentException
            put(0, 1, 10000) ! IllegalArgumentException
            put(0, 1, -10000) ! IllegalArgumentException
            put(2147483647, 1, 1) ! IndexOutOfBoundsException
            put(-2147483648, 1, 1) ! IndexOutOfBoundsException
            put(0, 2147483647, 1) ! IllegalArgumentException
            put(0, -2147483648, 1) ! IllegalArgumentException
            put(0, 1, 2147483647) ! IllegalArgumentException
            put(0, 1, -2147483648) ! IllegalArgumentException
            putAbsent(3, 100, 10000) ! IndexOutOfBoundsException
            putAbsent(0, 100, 5) ! IllegalArgumentException
            putAbsent(0, -1, 5) ! IllegalArgumentException
            putAbsent(0, 1, 10000) ! IllegalArgumentException
            putAbsent(0, 3, -10000) ! IllegalArgumentException
            replace(3, 100, 10000) ! IndexOutOfBoundsException
            replace(0, 100, 5) ! IllegalArgumentException
            replace(0, -1, 5) ! IllegalArgumentException
            replace(0, 1, 10000) ! IllegalArgumentException
            replace(0, 3, -10000) ! IllegalArgumentException
            swap(-1, 100, 10000, 10000) ! IndexOutOfBoundsException
            swap(0, 100, 4, 5) ! IllegalArgumentException
            swap(0, -1, 4, 5) ! IllegalArgumentException
            swap(0, 1, 10000, 5) ! IllegalArgumentException
            swap(0, 3, -10000, 5) ! IllegalArgumentException
            swap(0, 1, 4, 10000) ! IllegalArgumentException
            swap(0, 1, 4, -10000) ! IllegalArgumentException
            strike(3, 100) ! IndexOutOfBoundsException
            strike(0, 100) ! IllegalArgumentException
            strike(0, -1) ! IllegalArgumentException
            strikePair(3, 100, 10000) ! IndexOutOfBoundsException
            strikePair(0, 100, 4) ! IllegalArgumentException
            strikePair(0, -1, 4) ! IllegalArgumentException
            strikePair(0, 1, 10000) ! IllegalArgumentException
            strikePair(0, 3, -10000) ! IllegalArgumentException
            merge(3, 100, 10000) ! IndexOutOfBoundsException
            merge(0, 100, 4) ! IllegalArgumentException
            merge(0, -1, 4) ! IllegalArgumentException
            merge(0, 1, 10000) ! IllegalArgumentException
            merge(0, 3, -10000) ! IllegalArgumentException
            grow(3, 100) ! IndexOutOfBoundsException
            grow(0, 100) ! IllegalArgumentException
            grow(0, -1) ! IllegalArgumentException
            halve(-1, 100) ! IndexOutOfBoundsException
            halve(0, 100) ! IllegalArgumentException
            halve(0, -1) ! IllegalArgumentException
            twice(3, 100) ! IndexOutOfBoundsException
            twice(0, 100) ! IllegalArgumentException
            twice(0, -1) ! IllegalArgumentException
            poll(3, true) ! IndexOutOfBoundsException
            poll(-1, false) ! IndexOutOfBoundsException
            raise(3, 1000) ! IndexOutOfBoundsException
            raise(0, 1000) ! IllegalArgumentException
            raise(0, -1000) ! IllegalArgumentException
            raise(0, -2147483648) ! IllegalArgumentException
            sift(3, 1) ! IndexOutOfBoundsException
            sift(0, 1) ! IllegalArgumentException
            sift(0, 0) ! IllegalArgumentException
            sift(0, 100) ! IllegalArgumentException
            sift(0, -2) ! IllegalArgumentException
            strikeValue(3, 10000) ! IndexOutOfBoundsException
            strikeValue(0, 10000) ! IllegalArgumentException
            strikeValue(0, -10000) ! IllegalArgumentException
            strikeValue(0, 4) ! IllegalStateException
            clear(3) ! IndexOutOfBoundsException
            clear(-1) ! IndexOutOfBoundsException
            row(0) = {1=4, 2=4}
            """);
    }
}
