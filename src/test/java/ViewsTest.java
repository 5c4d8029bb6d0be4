/** Promises 20 to 29: views. */
public final class ViewsTest {

    private static final Runs RUNS = new Runs();

    public static void main(String[] args) {
        heads();
        tails();
        subs();
        parts();
        shuts();
        writesThroughViews();
        strikesThroughViews();
        mergesThroughViews();
        pollsThroughViews();
        clearsThroughViews();
        refusals();
        RUNS.end();
    }

    private static void heads() {
        RUNS.run("promise 20", """
            put(1, 4, 4) = NONE
            put(1, 2, 2) = NONE
            put(1, 3, 3) = NONE
            put(1, 1, 1) = NONE
            head(1, 3, true) = 0
            head(1, 3, false) = 1
            head(1, 6, true) = 2
            viewRow(0) = {4=4, 2=2, 3=3}
            viewRow(1) = {4=4, 2=2}
            viewRow(2) = {}
            put(1, 6, 6) = NONE
            viewRow(2) = {6=6}
            ofView(0, 2) = NONE
            ofView(0, 3) = 3
            ofView(0, 4) = 0
            ofView(0, 5) = 1
            ofView(1, 5) = 0
            head(0, 99, true) = 3
            head(0, 99, true) ! IllegalStateException
            """);
    }

    private static void tails() {
        RUNS.run("promise 21", """
            put(2, 4, 4) = NONE
            put(2, 1, 1) = NONE
            put(2, 16, 16) = NONE
            put(2, 5, 5) = NONE
            tail(2, 4, true) = 0
            tail(2, 4, false) = 1
            tail(2, 17, true) = 2
            viewRow(0) = {4=4, 16=16, 5=5}
            viewRow(1) = {16=16, 5=5}
            viewRow(2) = {5=5}
            put(2, 17, 17) = NONE
            viewRow(1) = {16=16, 17=17, 5=5}
            ofView(0, 2) = 4
            ofView(0, 3) = NONE
            ofView(0, 4) = 1
            ofView(1, 4) = 0
            ofView(0, 5) = 0
            tail(0, 0, true) = 3
            tail(0, 0, true) ! IllegalStateException
            """);
    }

    private static void subs() {
        RUNS.run("promise 22", """
            put(0, 1, 1) = NONE
            put(0, 2, 2) = NONE
            put(0, 3, 3) = NONE
            sub(0, 3, true, 2, true) = OUT
            ledger(0) = 0
            sub(0, 1, false, 3, false) = 0
            viewRow(0) = {2=2}
            sub(0, 1, true, 3, false) = 1
            viewRow(1) = {1=1, 2=2}
            sub(0, 1, false, 3, true) = 2
            viewRow(2) = {2=2, 3=3}
            sub(0, 1, true, 3, true) = 3
            viewRow(3) = {1=1, 2=2, 3=3}
            sub(0, 1, true, 3, true) ! IllegalStateException
            sub(0, 3, true, 1, true) ! IllegalStateException
            sub(0, 100, true, 1, true) ! IllegalArgumentException
            shut(1) = 2
            sub(0, 2, true, 2, true) = 1
            viewRow(1) = {2=2}
            ofView(1, 2) = 2
            ofView(1, 3) = 2
            ofView(1, 4) = 1
            ofView(1, 5) = 1
            """);
        RUNS.run("promise 22, one key as both bounds", """
            put(0, 2, 2) = NONE
            sub(0, 2, true, 2, false) = 0
            sub(0, 2, false, 2, true) = 1
            sub(0, 2, false, 2, false) = 2
            viewRow(0) = {}
            viewRow(1) = {}
            viewRow(2) = {}
            viewPut(0, 2, 5) = OUT
            viewPut(1, 2, 5) = OUT
            viewPut(2, 2, 5) = OUT
            ofView(2, 0) = 0
            ofView(2, 6) = NONE
            ofView(2, 7) = NONE
            viewNear(2, 2, 1) = NONE
            viewNear(2, 2, 2) = NONE
            viewPoll(2, false) = NONE
            viewClear(2) = 0
            shut(2) = 0
            row(0) = {2=2}
            """);
        RUNS.run("promise 22, by the order of the book", """
            sub(1, 1, true, 2, true) = OUT
            sub(1, 2, true, 1, true) = 0
            sub(2, 4, true, 1, true) = OUT
            sub(2, 16, true, 5, true) = 1
            sub(2, 5, true, 16, true) = OUT
            """);
    }

    private static void parts() {
        RUNS.run("promise 23", """
            put(0, 20, 2) = NONE
            put(0, 30, 3) = NONE
            put(0, 40, 4) = NONE
            sub(0, 20, true, 40, false) = 0
            part(0, 20, false, 30, true) = 1
            viewRow(1) = {30=3}
            part(0, 20, true, 40, true) = OUT
            part(0, 20, true, 40, false) = OUT
            part(0, 19, true, 30, true) = OUT
            part(0, 30, true, 20, true) = OUT
            part(1, 20, false, 30, true) = OUT
            part(1, 20, true, 30, true) = OUT
            ledger(0) = 2
            part(0, 39, false, 39, false) = 2
            viewRow(2) = {}
            part(0, 20, true, 39, true) = 3
            viewRow(3) = {20=2, 30=3}
            part(0, 20, true, 39, true) ! IllegalStateException
            part(0, 20, true, 40, true) ! IllegalStateException
            part(0, 20, true, 100, true) ! IllegalArgumentException
            shut(0) = 2
            viewRow(1) = {30=3}
            viewRow(3) = {20=2, 30=3}
            viewPut(3, 39, 9) = NONE
            row(0) = {20=2, 30=3, 39=9, 40=4}
            ofView(3, 1) = 0
            ofView(1, 2) = 20
            ofView(1, 4) = 0
            """);
        RUNS.run("promise 23, parts of heads and tails", """
            head(1, 7, false) = 0
            part(0, 98, true, 7, true) = OUT
            part(0, 98, true, 99, true) = 1
            part(0, 5, true, 5, true) = OUT
            tail(2, 16, true) = 2
            part(2, 4, true, 99, true) = OUT
            part(2, 16, false, 99, true) = 3
            ofView(3, 1) = 2
            """);
    }

    private static void shuts() {
        RUNS.run("promise 24", """
            put(0, 5, 5) = NONE
            put(0, 6, 6) = NONE
            head(0, 9, true) = 0
            head(0, 5, true) = 1
            tail(0, 7, true) = 2
            shut(1) = 1
            shut(1) ! IndexOutOfBoundsException
            viewRow(1) ! IndexOutOfBoundsException
            shut(0) = 2
            shut(2) = 0
            ledger(0) = 0
            row(0) = {5=5, 6=6}
            head(0, 9, true) = 0
            head(0, 9, true) = 1
            head(0, 9, true) = 2
            shut(1) = 2
            shut(0) = 2
            tail(0, 9, true) = 0
            tail(0, 9, true) = 1
            """);
        RUNS.run("promise 24, a walk goes on", """
            put(0, 5, 5) = NONE
            put(0, 6, 6) = NONE
            put(0, 7, 7) = NONE
            sub(0, 5, false, 7, false) = 0
            viewWalk(0) = 1
            shut(0) = 1
            tail(0, 7, true) = 0
            step() = 6
            write(66) = 6
            step() = NONE
            drop() = 2
            row(0) = {5=5, 7=7}
            """);
    }

    private static void writesThroughViews() {
        RUNS.run("promise 25", """
            sub(0, 5, true, 9, false) = 0
            viewPut(0, 5, 50) = NONE
            viewPut(0, 5, 51) = 50
            viewPut(0, 9, 90) = OUT
            viewPut(0, 4, 40) = OUT
            viewPut(0, 10, 40) = OUT
            row(0) = {5=51}
            put(0, 4, 4) = NONE
            viewPut(0, 4, 40) = OUT
            row(0) = {4=4, 5=51}
            viewPut(0, 8, 0) = NONE
            viewPut(0, 8, 1) = 0
            viewRow(0) = {5=51, 8=1}
            sub(0, 8, true, 8, true) = 1
            viewRow(1) = {8=1}
            viewPut(1, 8, 3) = 1
            viewRow(0) = {5=51, 8=3}
            """);
    }

    private static void strikesThroughViews() {
        RUNS.run("promise 26", """
            put(0, 4, 4) = NONE
            put(0, 5, 0) = NONE
            put(0, 9, 9) = NONE
            sub(0, 5, true, 9, false) = 0
            viewStrike(0, 4) = NONE
            viewStrike(0, 9) = NONE
            viewStrike(0, 6) = NONE
            row(0) = {4=4, 5=0, 9=9}
            viewStrike(0, 5) = 0
            viewStrike(0, 5) = NONE
            row(0) = {4=4, 9=9}
            """);
    }

    private static void mergesThroughViews() {
        RUNS.run("promise 27", """
            put(0, 4, 4) = NONE
            sub(0, 5, true, 9, false) = 0
            viewMerge(0, 4, 1) = OUT
            viewMerge(0, 9, 1) = OUT
            row(0) = {4=4}
            viewMerge(0, 5, 0) = 0
            viewMerge(0, 5, 9) = 9
            viewMerge(0, 5, 9998) = 9999
            viewMerge(0, 5, -9999) = NONE
            viewMerge(0, 5, -9999) = -9999
            viewMerge(0, 5, -3) = -9999
            viewRow(0) = {5=-9999}
            """);
    }

    private static void pollsThroughViews() {
        RUNS.run("promise 28", """
            put(1, 8, 8) = NONE
            put(1, 6, 6) = NONE
            put(1, 4, 4) = NONE
            put(1, 3, 3) = NONE
            put(1, 1, 1) = NONE
            sub(1, 8, false, 1, false) = 0
            viewPoll(0, false) = 6
            viewPoll(0, true) = 3
            viewPoll(0, true) = 4
            viewPoll(0, true) = NONE
            viewPoll(0, false) = NONE
            row(1) = {8=8, 1=1}
            """);
    }

    private static void clearsThroughViews() {
        RUNS.run("promise 29", """
            put(0, 4, 4) = NONE
            put(0, 5, 5) = NONE
            put(0, 6, 6) = NONE
            put(0, 7, 7) = NONE
            sub(0, 5, true, 7, false) = 0
            viewClear(0) = 2
            viewClear(0) = 0
            row(0) = {4=4, 7=7}
            ledger(0) = 1
            head(0, 4, true) = 1
            viewClear(1) = 1
            tail(0, 1, false) = 2
            viewClear(2) = 1
            row(0) = {}
            """);
    }

    private static void refusals() {
        RUNS.run("promises 20 to 29 refused", """
            put(0, 1, 1) = NONE
            tail(0, 1, true) = 0
            head(3, 100, true) ! IndexOutOfBoundsException
            head(-1, 1, true) ! IndexOutOfBoundsException
            head(0, 100, true) ! IllegalArgumentException
            head(0, -1, true) ! IllegalArgumentException
            tail(3, 100, true) ! IndexOutOfBoundsException
            tail(-1, 1, true) ! IndexOutOfBoundsException
            tail(0, 100, true) ! IllegalArgumentException
            tail(0, -1, true) ! IllegalArgumentException
            sub(3, 100, true, 100, true) ! IndexOutOfBoundsException
            sub(-1, 1, true, 2, true) ! IndexOutOfBoundsException
            sub(0, 100, true, 2, true) ! IllegalArgumentException
            sub(0, -1, true, 2, true) ! IllegalArgumentException
            sub(0, 1, true, 100, true) ! IllegalArgumentException
            sub(0, 1, true, -1, true) ! IllegalArgumentException
            part(1, 100, true, 100, true) ! IndexOutOfBoundsException
            part(-1, 1, true, 2, true) ! IndexOutOfBoundsException
            part(4, 1, true, 2, true) ! IndexOutOfBoundsException
            part(0, 100, true, 2, true) ! IllegalArgumentException
            part(0, -1, true, 2, true) ! IllegalArgumentException
            part(0, 1, true, 100, true) ! IllegalArgumentException
            part(0, 1, true, -1, true) ! IllegalArgumentException
            shut(-1) ! IndexOutOfBoundsException
            shut(1) ! IndexOutOfBoundsException
            shut(4) ! IndexOutOfBoundsException
            viewPut(1, 100, 10000) ! IndexOutOfBoundsException
            viewPut(-1, 1, 1) ! IndexOutOfBoundsException
            viewPut(4, 1, 1) ! IndexOutOfBoundsException
            viewPut(0, 100, 1) ! IllegalArgumentException
            viewPut(0, -1, 1) ! IllegalArgumentException
            viewPut(0, 1, 10000) ! IllegalArgumentException
            viewPut(0, 0, 10000) ! IllegalArgumentException
            viewPut(0, 1, -10000) ! IllegalArgumentException
            viewStrike(1, 100) ! IndexOutOfBoundsException
            viewStrike(-1, 1) ! IndexOutOfBoundsException
            viewStrike(4, 1) ! IndexOutOfBoundsException
            viewStrike(0, 100) ! IllegalArgumentException
            viewStrike(0, -1) ! IllegalArgumentException
            viewMerge(1, 100, 10000) ! IndexOutOfBoundsException
            viewMerge(-1, 1, 1) ! IndexOutOfBoundsException
            viewMerge(4, 1, 1) ! IndexOutOfBoundsException
            viewMerge(0, 100, 1) ! IllegalArgumentException
            viewMerge(0, -1, 1) ! IllegalArgumentException
            viewMerge(0, 1, 10000) ! IllegalArgumentException
            viewMerge(0, 0, -10000) ! IllegalArgumentException
            viewPoll(1, true) ! IndexOutOfBoundsException
            viewPoll(-1, true) ! IndexOutOfBoundsException
            viewPoll(4, false) ! IndexOutOfBoundsException
            viewClear(1) ! IndexOutOfBoundsException
            viewClear(-1) ! IndexOutOfBoundsException
            viewClear(4) ! IndexOutOfBoundsException
            viewRow(0) = {1=1}
            ledger(0) = 1
            """);
        RUNS.run("4 are open, and worse is wrong", """
            head(0, 1, true) = 0
            head(0, 1, true) = 1
            head(0, 1, true) = 2
            head(0, 1, true) = 3
            head(3, 1, true) ! IndexOutOfBoundsException
            head(0, 100, true) ! IllegalArgumentException
            tail(3, 1, true) ! IndexOutOfBoundsException
            tail(0, 100, true) ! IllegalArgumentException
            sub(3, 1, true, 2, true) ! IndexOutOfBoundsException
            sub(0, 1, true, 100, true) ! IllegalArgumentException
            part(4, 1, true, 2, true) ! IndexOutOfBoundsException
            part(3, 1, true, 100, true) ! IllegalArgumentException
            part(3, 1, true, 2, true) ! IllegalStateException
            """);
    }
}
