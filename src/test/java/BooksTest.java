/** Promises 17 to 19: books with books. */
public final class BooksTest {

    private static final Runs RUNS = new Runs();

    public static void main(String[] args) {
        pours();
        copies();
        copiesOverViewsAndWalks();
        thins();
        refusals();
        RUNS.end();
    }

    private static void pours() {
        RUNS.run("promise 17", """
            pour(0, 1) = 0
            put(0, 1, 10) = NONE
            put(0, 2, 20) = NONE
            put(1, 2, 22) = NONE
            put(1, 3, 33) = NONE
            pour(0, 1) = 3
            row(1) = {2=20, 3=33, 1=10}
            row(0) = {1=10, 2=20}
            ofBook(1, 1) = 1
            head(1, 1, true) = 0
            pour(2, 1) = 3
            ofBook(1, 8) = 1
            """);
    }

    private static void copies() {
        RUNS.run("promise 18", """
            put(0, 1, 10) = NONE
            put(0, 2, 20) = NONE
            put(0, 4, 40) = NONE
            put(1, 2, 22) = NONE
            put(1, 3, 33) = NONE
            copy(1, 0) = 0
            row(0) = {2=22, 3=33}
            ofBook(0, 1) = 1
            put(0, 8, 80) = NONE
            row(0) = {8=80, 2=22, 3=33}
            row(1) = {2=22, 3=33}
            copy(2, 0) = 0
            row(0) = {}
            ofBook(0, 1) = 2
            ofBook(1, 1) = 1
            copy(0, 1) = 0
            ofBook(1, 1) = 2
            """);
    }

    private static void copiesOverViewsAndWalks() {
        RUNS.run("promise 18, views", """
            head(0, 9, true) = 0
            head(1, 9, true) = 1
            tail(0, 9, true) = 2
            tail(2, 9, true) = 3
            copy(1, 0) = 2
            ledger(0) = 2
            ofBook(0, 8) = 0
            ofBook(1, 8) = 1
            ofView(0, 0) ! IndexOutOfBoundsException
            ofView(2, 0) ! IndexOutOfBoundsException
            ofView(1, 1) = 1
            ofView(3, 1) = 2
            head(2, 5, false) = 0
            copy(2, 0) = 0
            """);
        RUNS.run("promise 18, walks", """
            put(0, 1, 1) = NONE
            walk(0) = 1
            copy(0, 1) = 0
            ledger(1) = 0
            step() = 1
            copy(0, 2) = 0
            ledger(3) = 1
            copy(0, 0) ! IllegalArgumentException
            ledger(1) = 0
            copy(2, 0) = 0
            ledger(1) = NONE
            ledger(2) = 0
            ledger(3) = NONE
            step() ! IllegalStateException
            head(0, 5, true) = 0
            viewWalk(0) = 1
            copy(2, 0) = 1
            ledger(1) = NONE
            head(0, 5, true) = 0
            viewWalk(0) = 1
            shut(0) = 1
            ledger(1) = 0
            copy(2, 0) = 0
            ledger(1) = NONE
            step() ! IllegalStateException
            # a broken walk is over, too
            walk(0) = 1
            put(0, 2, 2) = NONE
            ledger(2) = 1
            copy(2, 0) = 0
            ledger(1) = NONE
            ledger(2) = 0
            """);
    }

    private static void thins() {
        RUNS.run("promise 19", """
            thin(0, 1, true) = 0
            thin(0, 1, false) = 0
            put(0, 1, 1) = NONE
            put(0, 2, 2) = NONE
            put(0, 3, 3) = NONE
            put(0, 4, 4) = NONE
            put(1, 2, 9) = NONE
            put(1, 3, 9) = NONE
            put(1, 7, 9) = NONE
            thin(0, 1, true) = 2
            row(0) = {1=1, 4=4}
            thin(0, 1, true) = 0
            put(0, 7, 7) = NONE
            thin(0, 1, false) = 2
            row(0) = {7=7}
            row(1) = {2=9, 7=9, 3=9}
            thin(0, 2, false) = 1
            row(0) = {}
            """);
    }

    private static void refusals() {
        RUNS.run("promises 17 to 19 refused", """
            put(0, 1, 1) = NONE
            head(0, 5, true) = 0
            walk(0) = 1
            step() = 1
            pour(3, 0) ! IndexOutOfBoundsException
            pour(0, 3) ! IndexOutOfBoundsException
            pour(-1, -1) ! IndexOutOfBoundsException
            pour(3, 3) ! IndexOutOfBoundsException
            pour(0, 0) ! IllegalArgumentException
            copy(3, 0) ! IndexOutOfBoundsException
            copy(0, -1) ! IndexOutOfBoundsException
            copy(3, 3) ! IndexOutOfBoundsException
            copy(0, 0) ! IllegalArgumentException
            thin(3, 0, true) ! IndexOutOfBoundsException
            thin(0, 3, false) ! IndexOutOfBoundsException
            thin(-1, -1, false) ! IndexOutOfBoundsException
            thin(0, 0, true) ! IllegalArgumentException
            thin(0, 0, false) ! IllegalArgumentException
            ledger(3) = 1
            ledger(0) = 1
            """);
    }
}
