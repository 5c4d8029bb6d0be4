/** The boundary cases of promises 38 to 54, sentence by sentence. */
public final class AskEdgesTest {

    private static final Edges EDGES = new Edges();

    public static void main(String[] args) {
        gets();
        values();
        ofBooks();
        nears();
        places();
        rows();
        same();
        viewGets();
        ofViews();
        viewNears();
        viewRows();
        ledgers();
        soundAndDigest();
        EDGES.end(38, 54);
    }

    private static void gets() {
        EDGES.promise(38, "Returns its VALUE; NONE, if it is not there.", Runs.full(0) + """
            get(1, 0) = NONE
            get(1, 99) = NONE
            get(0, -1) ! IllegalArgumentException
            get(0, 0) = 0
            get(0, 99) = 99
            get(0, 100) ! IllegalArgumentException
            get(3, 0) ! IndexOutOfBoundsException
            get(-1, 0) ! IndexOutOfBoundsException
            put(0, 99, -9999) = 99
            get(0, 99) = -9999
            strike(0, 0) = 0
            get(0, 0) = NONE
            """);
        EDGES.promise(39, "Returns its VALUE; the other one, if it is not there.", Runs.full(2) + """
            getOr(1, 0, 9999) = 9999
            getOr(1, 99, -9999) = -9999
            getOr(2, 0, 9999) = 0
            getOr(2, 63, -9999) = 63
            getOr(2, 0, 10000) ! IllegalArgumentException
            getOr(2, 0, -10000) ! IllegalArgumentException
            getOr(2, -1, 0) ! IllegalArgumentException
            getOr(2, 100, 0) ! IllegalArgumentException
            getOr(3, 100, 0) ! IndexOutOfBoundsException
            row(1) = {}
            """);
        EDGES.promise(40, "Returns whether the BOOK has it.", Runs.full(1) + """
            has(0, 0) = false
            has(0, 99) = false
            has(1, 98) = true
            has(1, 1) = true
            has(1, -1) ! IllegalArgumentException
            has(1, 100) ! IllegalArgumentException
            has(3, 0) ! IndexOutOfBoundsException
            put(0, 0, 0) = NONE
            has(0, 0) = true
            strike(1, 1) = 1
            has(1, 1) = false
            """);
    }

    private static void values() {
        EDGES.promise(41, "Returns whether some KEY has it.", Runs.full(0) + """
            hasValue(1, 0) = false
            hasValue(1, -9999) = false
            hasValue(1, 9999) = false
            hasValue(0, 0) = true
            hasValue(0, 99) = true
            hasValue(0, 100) = false
            hasValue(0, -1) = false
            put(0, 0, 9999) = 0
            put(0, 99, -9999) = 99
            hasValue(0, 9999) = true
            hasValue(0, -9999) = true
            hasValue(0, 99) = false
            hasValue(0, 10000) ! IllegalArgumentException
            hasValue(0, -10000) ! IllegalArgumentException
            hasValue(-1, 0) ! IndexOutOfBoundsException
            """);
    }

    private static void ofBooks() {
        EDGES.promise(42, "(2 to 5: NONE without PAIRS)", """
            ofBook(0, 0) = 0
            ofBook(0, 1) = 0
            ofBook(0, 2) = NONE
            ofBook(0, 3) = NONE
            ofBook(0, 4) = NONE
            ofBook(0, 5) = NONE
            ofBook(0, 6) = 0
            ofBook(0, 7) = 0
            ofBook(0, 8) = 0
            ofBook(0, 9) ! IllegalArgumentException
            ofBook(0, -1) ! IllegalArgumentException
            ofBook(3, 0) ! IndexOutOfBoundsException
            put(0, 0, 0) = NONE
            ofBook(0, 2) = 0
            ofBook(0, 3) = 0
            ofBook(0, 4) = 0
            ofBook(0, 5) = 0
            strike(0, 0) = 0
            ofBook(0, 2) = NONE
            ofBook(0, 5) = NONE
            """);
        EDGES.promise(42, "6 the sum of all VALUES, 7 how many unlike VALUES there are, 8 how many VIEWS onto it are open", Runs.full(1) + """
            ofBook(1, 0) = 100
            ofBook(1, 2) = 98
            ofBook(1, 3) = 98
            ofBook(1, 4) = 1
            ofBook(1, 5) = 1
            ofBook(1, 6) = 4950
            ofBook(1, 7) = 100
            put(1, 1, 98) = 1
            ofBook(1, 7) = 99
            put(1, 0, -98) = 0
            ofBook(1, 7) = 99
            head(1, 0, true) = 0
            part(0, 98, true, 0, true) = 1
            tail(1, 0, true) = 2
            sub(1, 0, true, 0, true) = 3
            ofBook(1, 8) = 4
            ofBook(0, 8) = 0
            shut(0) = 50
            ofBook(1, 8) = 3
            """);
    }

    private static void nears() {
        EDGES.promise(43, "Returns that; NONE, if there is none.", Runs.full(0) + """
            near(0, 0, 0) = NONE
            near(0, 0, 1) = 0
            near(0, 0, 2) = 0
            near(0, 0, 3) = 1
            near(0, 0, 4) = NONE
            near(0, 0, 5) = 0
            near(0, 0, 6) = 0
            near(0, 0, 7) = 1
            near(0, 99, 0) = 98
            near(0, 99, 1) = 99
            near(0, 99, 2) = 99
            near(0, 99, 3) = NONE
            near(0, 99, 4) = 98
            near(0, 99, 5) = 99
            near(0, 99, 6) = 99
            near(0, 99, 7) = NONE
            near(0, 99, 8) ! IllegalArgumentException
            near(0, 99, -1) ! IllegalArgumentException
            near(0, 100, 0) ! IllegalArgumentException
            near(0, -1, 0) ! IllegalArgumentException
            near(3, 0, 0) ! IndexOutOfBoundsException
            """);
        EDGES.promise(43, "0 LOWER, 1 FLOOR, 2 CEILING, 3 HIGHER, 4 to 7 the VALUES of these KEYS", """
            near(2, 0, 0) = NONE
            near(2, 0, 1) = NONE
            near(2, 0, 2) = NONE
            near(2, 0, 3) = NONE
            near(2, 99, 4) = NONE
            near(2, 99, 5) = NONE
            near(2, 99, 6) = NONE
            near(2, 99, 7) = NONE
            put(2, 99, -9999) = NONE
            near(2, 99, 5) = -9999
            near(2, 99, 6) = -9999
            near(2, 2, 4) = -9999
            near(2, 0, 7) = -9999
            near(2, 2, 6) = NONE
            near(2, 0, 5) = NONE
            """);
    }

    private static void places() {
        EDGES.promise(44, "Returns how many KEYS of the BOOK are ahead of it (its PLACE, if the BOOK has it).", Runs.full(1) + """
            place(0, 0) = 0
            place(0, 99) = 0
            place(1, 98) = 0
            place(1, 1) = 99
            place(1, -1) ! IllegalArgumentException
            place(1, 100) ! IllegalArgumentException
            place(3, 0) ! IndexOutOfBoundsException
            strike(1, 1) = 1
            place(1, 1) = 99
            strike(1, 98) = 98
            place(1, 98) = 0
            place(1, 96) = 0
            place(1, 1) = 98
            """);
        EDGES.promise(45, "Returns the KEY there; NONE, if there are not so many PAIRS.", Runs.full(1) + """
            at(0, 0) = NONE
            at(1, -1) ! IllegalArgumentException
            at(1, 0) = 98
            at(1, 99) = 1
            at(1, 100) = NONE
            at(1, 2147483647) = NONE
            at(1, -2147483648) ! IllegalArgumentException
            at(3, -1) ! IndexOutOfBoundsException
            put(0, 5, 0) = NONE
            at(0, 0) = 5
            at(0, 1) = NONE
            """);
    }

    private static void rows() {
        EDGES.promise(46, "(\"{3=7, 5=-1}\"; \"{}\" without any)", """
            row(0) = {}
            put(0, 5, -1) = NONE
            row(0) = {5=-1}
            put(0, 3, 7) = NONE
            row(0) = {3=7, 5=-1}
            put(0, 0, -9999) = NONE
            put(0, 99, 9999) = NONE
            row(0) = {0=-9999, 3=7, 5=-1, 99=9999}
            clear(0) = 4
            row(0) = {}
            row(3) ! IndexOutOfBoundsException
            row(-1) ! IndexOutOfBoundsException
            """);
        EDGES.promise(46, "Returns its ROW in curly brackets: KEY, \"=\" and VALUE, with \", \" between two PAIRS", Runs.full(0) + "row(0) = " + fullRow());
    }

    private static String fullRow() {
        StringBuilder row = new StringBuilder("{0=0");
        for (int key = 1; key < 100; key++) {
            row.append(", ").append(key).append('=').append(key);
        }
        return row.append('}').toString();
    }

    private static void same() {
        EDGES.promise(47, "Returns whether both have the same PAIRS (whatever their ORDERS).", Runs.full(0) + """
            same(1, 2) = true
            same(1, 1) = true
            same(0, 0) = true
            same(0, 1) = false
            same(1, 0) = false
            pour(0, 1) = 100
            pour(1, 2) = 100
            same(0, 1) = true
            same(1, 2) = true
            same(2, 0) = true
            put(1, 1, 0) = 1
            same(0, 1) = false
            same(1, 0) = false
            put(1, 1, 1) = 0
            # the first pair, and the last one, of one book
            put(1, 98, 0) = 98
            same(0, 1) = false
            same(1, 0) = false
            put(1, 98, 98) = 0
            put(0, 0, 1) = 0
            same(0, 1) = false
            put(0, 0, 0) = 1
            same(0, 1) = true
            strike(1, 98) = 98
            same(0, 1) = false
            same(1, 0) = false
            strike(0, 99) = 99
            same(0, 1) = false
            same(3, 0) ! IndexOutOfBoundsException
            same(0, -1) ! IndexOutOfBoundsException
            """);
    }

    private static void viewGets() {
        EDGES.promise(48, "Returns the VALUE of that KEY; NONE, if the VIEW does not show it.", Runs.full(0) + """
            sub(0, 0, false, 99, false) = 0
            viewGet(0, 0) = NONE
            viewGet(0, 1) = 1
            viewGet(0, 98) = 98
            viewGet(0, 99) = NONE
            strike(0, 98) = 98
            viewGet(0, 98) = NONE
            viewGet(0, 100) ! IllegalArgumentException
            viewGet(0, -1) ! IllegalArgumentException
            viewGet(1, 0) ! IndexOutOfBoundsException
            tail(1, 0, true) = 1
            viewGet(1, 0) = NONE
            """);
    }

    private static void ofViews() {
        EDGES.promise(49, "(2 and 3: NONE without one)", """
            head(2, 0, true) = 0
            tail(2, 99, true) = 1
            sub(2, 0, true, 99, true) = 2
            ofView(0, 2) = NONE
            ofView(0, 3) = 0
            ofView(1, 2) = 99
            ofView(1, 3) = NONE
            ofView(2, 2) = 0
            ofView(2, 3) = 99
            ofView(2, 1) = 2
            """);
        EDGES.promise(49, "(4 and 5: 0 without one)", """
            head(0, 0, true) = 0
            tail(0, 0, true) = 1
            head(0, 0, false) = 2
            tail(0, 0, false) = 3
            ofView(0, 4) = 0
            ofView(0, 5) = 1
            ofView(1, 4) = 1
            ofView(1, 5) = 0
            ofView(2, 4) = 0
            ofView(2, 5) = 0
            ofView(3, 4) = 0
            ofView(3, 5) = 0
            """);
        EDGES.promise(49, "(NONE without any)", Runs.full(0) + """
            sub(0, 1, false, 2, false) = 0
            ofView(0, 0) = 0
            ofView(0, 6) = NONE
            ofView(0, 7) = NONE
            ofView(0, 8) = 0
            sub(0, 1, true, 2, false) = 1
            ofView(1, 0) = 1
            ofView(1, 6) = 1
            ofView(1, 7) = 1
            ofView(1, 8) = 1
            tail(0, 0, true) = 2
            ofView(2, 0) = 100
            ofView(2, 6) = 0
            ofView(2, 7) = 99
            ofView(2, 8) = 4950
            ofView(2, 9) ! IllegalArgumentException
            ofView(2, -1) ! IllegalArgumentException
            ofView(3, 0) ! IndexOutOfBoundsException
            head(1, 0, true) = 3
            ofView(3, 6) = NONE
            ofView(3, 7) = NONE
            """);
    }

    private static void viewNears() {
        EDGES.promise(50, "(FLOOR and CEILING are the KEY itself only if the VIEW shows it)", Runs.full(0) + """
            sub(0, 10, false, 20, false) = 0
            viewNear(0, 10, 1) = NONE
            viewNear(0, 10, 2) = 11
            viewNear(0, 20, 1) = 19
            viewNear(0, 20, 2) = NONE
            viewNear(0, 11, 1) = 11
            viewNear(0, 11, 2) = 11
            viewNear(0, 19, 1) = 19
            viewNear(0, 19, 2) = 19
            strike(0, 15) = 15
            viewNear(0, 15, 1) = 14
            viewNear(0, 15, 2) = 16
            """);
        EDGES.promise(50, "Returns that; NONE, if there is none.", Runs.full(0) + """
            sub(0, 10, true, 20, true) = 0
            viewNear(0, 10, 0) = NONE
            viewNear(0, 11, 0) = 10
            viewNear(0, 20, 3) = NONE
            viewNear(0, 19, 3) = 20
            viewNear(0, 0, 0) = NONE
            viewNear(0, 0, 1) = NONE
            viewNear(0, 0, 2) = 10
            viewNear(0, 0, 3) = 10
            viewNear(0, 99, 0) = 20
            viewNear(0, 99, 1) = 20
            viewNear(0, 99, 2) = NONE
            viewNear(0, 99, 3) = NONE
            viewNear(0, 99, 4) ! IllegalArgumentException
            viewNear(0, 99, -1) ! IllegalArgumentException
            viewNear(0, 100, 0) ! IllegalArgumentException
            viewNear(0, -1, 0) ! IllegalArgumentException
            viewNear(1, 0, 0) ! IndexOutOfBoundsException
            sub(0, 10, false, 11, false) = 1
            viewNear(1, 50, 0) = NONE
            viewNear(1, 0, 3) = NONE
            viewNear(1, 10, 3) = NONE
            viewNear(1, 11, 0) = NONE
            """);
    }

    private static void viewRows() {
        EDGES.promise(51, "Returns the PAIRS that it shows, as row() tells those of a BOOK.", Runs.full(0) + """
            head(1, 0, true) = 0
            viewRow(0) = {}
            sub(0, 98, false, 99, true) = 1
            viewRow(1) = {99=99}
            put(0, 99, -9999) = 99
            viewRow(1) = {99=-9999}
            sub(0, 98, false, 99, false) = 2
            viewRow(2) = {}
            head(0, 1, true) = 3
            viewRow(3) = {0=0, 1=1}
            viewRow(4) ! IndexOutOfBoundsException
            viewRow(-1) ! IndexOutOfBoundsException
            shut(3) = 2
            viewRow(3) ! IndexOutOfBoundsException
            """);
        EDGES.promise(51, "the PAIRS that it shows", Runs.full(0) + "tail(0, 0, true) = 0\nviewRow(0) = " + fullRow());
    }

    private static void ledgers() {
        EDGES.promise(52, "1 the BOOK in which the WALK is (NONE without one), 2 1 if it is BROKEN, otherwise 0, 3 the KEY that is AT HAND (NONE)", """
            ledger(1) = NONE
            ledger(2) = 0
            ledger(3) = NONE
            put(0, 0, 0) = NONE
            walk(0) = 1
            ledger(1) = 0
            ledger(2) = 0
            ledger(3) = NONE
            step() = 0
            ledger(3) = 0
            strike(0, 0) = 0
            ledger(1) = 0
            ledger(2) = 1
            ledger(3) = NONE
            copy(1, 0) = 0
            ledger(1) = NONE
            ledger(2) = 0
            ledger(3) = NONE
            ledger(7) ! IllegalArgumentException
            ledger(-1) ! IllegalArgumentException
            """);
        EDGES.promise(52, "4 the KEY that is KEPT, 5 its VALUE (4 and 5: NONE without one)", """
            ledger(0) = 0
            ledger(4) = NONE
            ledger(5) = NONE
            ledger(6) = 0
            put(0, 0, 0) = NONE
            keep(0, true) = 0
            ledger(4) = 0
            ledger(5) = 0
            head(0, 0, true) = 0
            head(0, 0, true) = 1
            head(0, 0, true) = 2
            head(0, 0, true) = 3
            ledger(0) = 4
            knock() = 1
            ledger(6) = 1
            """);
    }

    private static void soundAndDigest() {
        EDGES.promise(53, "Returns whether all of this is so", Runs.full(0) + """
            isSound() = true
            pour(0, 1) = 100
            pour(1, 2) = 100
            tail(0, 0, true) = 0
            head(1, 1, true) = 1
            sub(2, 5, false, 5, false) = 2
            tail(2, 63, false) = 3
            isSound() = true
            clear(0) = 100
            clear(1) = 100
            clear(2) = 100
            isSound() = true
            """);
        EDGES.promise(54, "A number d starts with 6007", """
            digest() = -3306767838265812558
            isSound() = true
            put(0, 0, 0) = NONE
            strike(0, 0) = 0
            walk(0) = 0
            head(0, 0, true) = 0
            shut(0) = 0
            copy(1, 2) = 0
            copy(0, 1) = 0
            # the orders are others now, and the walk is in book 0
            ofBook(2, 1) = 1
            ledger(1) = 0
            isSound() = true
            """);
        EDGES.promise(54, "wraps around as a 64-bit integer", Runs.full(0)
            + "tail(0, 0, true) = 0\nhead(1, 99, true) = 1\nviewRow(1) = {}\n"
            + "digest() = " + fullDigest() + "\ndigest() = " + fullDigest() + "\n");
        EDGES.sentence("X by X is by rising numbers.", """
            put(2, 50, 9) = NONE
            put(1, 3, 5) = NONE
            put(1, 4, 6) = NONE
            put(0, 3, 7) = NONE
            # the view 1 is older than the view 0
            head(1, 3, true) = 0
            tail(0, 3, true) = 1
            shut(0) = 2
            sub(2, 50, true, 50, true) = 0
            """ + "digest() = " + smallDigest());
    }

    /** The digest of an object whose book 0 is full, with a view onto all of it and one that shows nothing, told by hand. */
    private static long fullDigest() {
        java.util.ArrayList<Integer> told = new java.util.ArrayList<>();
        add(told, 2, -10000, 0, -10000, -10000, -10000, 0);
        add(told, 100, 0, 0, 0, 99, 99, 4950, 100, 1);
        for (int key = 0; key < 100; key++) {
            add(told, key, key);
        }
        add(told, 49, 50, 50, 51, 49, 50, 50, 51, 1, 0, 0);
        add(told, 0, 1, -10000, -10000, -10000, -10000, 0, 0, 1);
        add(told, -10000, -10000, -10000, -10000, -10000, -10000, -10000, -10000, 0, 1, 1);
        add(told, 0, 2, -10000, -10000, -10000, -10000, 0, 0, 0);
        add(told, -10000, -10000, -10000, -10000, -10000, -10000, -10000, -10000, 0, 1, 1);
        add(told, 0, 100, 0, 0, -10000, 1, 0, 0, 99, 4950, 49, 50, 50, 51, fullRow().length());
        add(told, 1, 0, 1, -10000, 99, 0, 1, -10000, -10000, 0, -10000, -10000, -10000, -10000, 2);
        add(told, 1);
        return digest(told);
    }

    /** The digest of an object with a pair or two in each book and two views, told by hand. */
    private static long smallDigest() {
        java.util.ArrayList<Integer> told = new java.util.ArrayList<>();
        add(told, 2, -10000, 0, -10000, -10000, -10000, 0);
        add(told, 1, 0, 3, 7, 3, 7, 7, 1, 1);
        add(told, 3, 7);
        add(told, 3, 3, -10000, -10000, 7, 7, -10000, -10000, 1, 0, 0);
        add(told, 2, 1, 4, 6, 3, 5, 11, 2, 0);
        add(told, 4, 6, 3, 5);
        add(told, -10000, -10000, 4, 4, -10000, -10000, 6, 6, 0, 1, 0);
        add(told, 1, 2, 50, 9, 50, 9, 9, 1, 1);
        add(told, 50, 9);
        add(told, -10000, 50, 50, -10000, -10000, 9, 9, -10000, 0, 0, 1);
        add(told, 0, 1, 2, 50, 50, 1, 1, 50, 50, 9, -10000, 50, 50, -10000, "{50=9}".length());
        add(told, 1, 1, 0, 3, -10000, 1, 0, 3, 3, 7, 3, 3, -10000, -10000, "{3=7}".length());
        add(told, 1);
        return digest(told);
    }

    private static long digest(java.util.ArrayList<Integer> told) {
        long digest = 6007;
        for (int one : told) {
            digest = digest * 31 + one;
        }
        return digest;
    }

    private static void add(java.util.ArrayList<Integer> told, int... more) {
        for (int one : more) {
            told.add(one);
        }
    }
}
