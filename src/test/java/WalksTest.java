/** Promises 30 to 37: walks and kept pairs. */
public final class WalksTest {

    private static final Runs RUNS = new Runs();

    private static final String FOUR_PAIRS = """
            put(1, 2, 2) = NONE
            put(1, 4, 4) = NONE
            put(1, 3, 3) = NONE
            put(1, 7, 7) = NONE
            """;

    public static void main(String[] args) {
        walks();
        walksInViews();
        steps();
        writes();
        drops();
        breaks();
        staysUnbroken();
        losesWhatIsAtHand();
        holdsWhatIsAtHand();
        keeps();
        brandsAndKnocks();
        refusals();
        RUNS.end();
    }

    private static void walks() {
        RUNS.run("promise 30", FOUR_PAIRS + """
            walk(0) = 0
            ledger(1) = 0
            walk(1) = 4
            ledger(1) = 1
            ledger(3) = NONE
            step() = 4
            step() = 2
            walk(1) = 4
            ledger(3) = NONE
            drop() ! IllegalStateException
            step() = 4
            put(1, 8, 8) = NONE
            ledger(2) = 1
            walk(1) = 5
            ledger(2) = 0
            step() = 8
            walk(3) ! IndexOutOfBoundsException
            ledger(3) = 8
            """);
    }

    private static void walksInViews() {
        RUNS.run("promise 31", FOUR_PAIRS + """
            sub(1, 4, false, 3, false) = 0
            viewWalk(0) = 2
            ledger(1) = 1
            step() = 2
            step() = 7
            step() = NONE
            ledger(3) = 7
            drop() = 3
            step() = NONE
            row(1) = {4=4, 2=2, 3=3}
            # a key outside of the view, but in the book
            viewWalk(0) = 1
            put(1, 99, 9) = NONE
            ledger(2) = 1
            step() ! IllegalStateException
            tail(1, 1, true) = 1
            viewWalk(1) = 0
            step() = NONE
            ledger(2) = 0
            viewWalk(2) ! IndexOutOfBoundsException
            ledger(1) = 1
            """);
    }

    private static void steps() {
        RUNS.run("promise 32", FOUR_PAIRS + """
            step() ! IllegalStateException
            walk(1) = 4
            step() = 4
            step() = 2
            step() = 7
            step() = 3
            step() = NONE
            step() = NONE
            ledger(3) = 3
            drop() = 3
            step() = NONE
            ledger(3) = NONE
            put(1, 99, 9) = NONE
            step() ! IllegalStateException
            clear(1) = 4
            walk(1) = 0
            step() = NONE
            drop() ! IllegalStateException
            write(1) ! IllegalStateException
            """);
    }

    private static void writes() {
        RUNS.run("promise 33", FOUR_PAIRS + """
            write(10000) ! IllegalArgumentException
            write(-10000) ! IllegalArgumentException
            write(1) ! IllegalStateException
            walk(1) = 4
            write(1) ! IllegalStateException
            step() = 4
            write(10000) ! IllegalArgumentException
            write(-9999) = 4
            write(9999) = -9999
            ledger(3) = 4
            step() = 2
            write(0) = 2
            ledger(2) = 0
            step() = 7
            step() = 3
            step() = NONE
            write(30) = 3
            row(1) = {4=9999, 2=0, 7=7, 3=30}
            drop() = 3
            write(5) ! IllegalStateException
            """);
    }

    private static void drops() {
        RUNS.run("promise 34", FOUR_PAIRS + """
            drop() ! IllegalStateException
            walk(1) = 4
            drop() ! IllegalStateException
            step() = 4
            drop() = 3
            drop() ! IllegalStateException
            step() = 2
            step() = 7
            drop() = 2
            step() = 3
            put(1, 3, 33) = 3
            ledger(3) = NONE
            write(1) ! IllegalStateException
            drop() = 1
            step() = NONE
            drop() ! IllegalStateException
            row(1) = {2=2}
            ledger(2) = 0
            put(1, 6, 6) = NONE
            drop() ! IllegalStateException
            """);
    }

    /** Each call that makes keys come or go breaks a walk, and it stays broken. */
    private static void breaks() {
        String[] breaking = {
            "put(1, 9, 1) = NONE", "putAbsent(1, 9, 1) = NONE", "strike(1, 4) = 4", "strikePair(1, 4, 4) = true",
            "merge(1, 9, 0) = 0", "merge(1, 3, -3) = NONE", "grow(1, 9) = -23", "halve(1, 1) = NONE",
            "twice(1, 9) = 9", "twice(1, 5) = NONE", "poll(1, true) = 1", "poll(1, false) = 4", "sift(1, 7) = 2",
            "strikeValue(1, 4) = true", "clear(1) = 6", "pour(0, 1) = 7", "thin(1, 0, true) = 1", "thin(1, 0, false) = 5",
            "viewPut(0, 9, 1) = NONE", "viewStrike(0, 3) = 3", "viewMerge(0, 9, 1) = 1", "viewMerge(0, 3, -3) = NONE",
            "viewPoll(0, true) = 1", "viewClear(0) = 4",
        };
        for (String call : breaking) {
            Rangeledger ledger = RUNS.run("breaks by " + call, FOUR_PAIRS + """
                put(1, 1, 1) = NONE
                put(1, 5, -700) = NONE
                put(0, 4, 44) = NONE
                put(0, 8, 88) = NONE
                tail(1, 9, true) = 0
                walk(1) = 6
                step() = 4
                """);
            RUNS.goOn(ledger, "breaks by " + call, call);
            RUNS.goOn(ledger, "broken by " + call, """
                ledger(1) = 1
                ledger(2) = 1
                ledger(3) = NONE
                step() ! IllegalStateException
                write(1) ! IllegalStateException
                drop() ! IllegalStateException
                """);
        }
        RUNS.run("stays broken", FOUR_PAIRS + """
            walk(1) = 4
            put(1, 9, 9) = NONE
            strike(1, 9) = 9
            step() ! IllegalStateException
            ledger(2) = 1
            """);
    }

    private static void staysUnbroken() {
        RUNS.run("not broken", FOUR_PAIRS + """
            put(0, 2, 22) = NONE
            tail(1, 3, true) = 0
            walk(1) = 4
            step() = 4
            put(1, 7, 70) = 7
            putAbsent(1, 7, 71) = 70
            replace(1, 9, 1) = NONE
            replace(1, 7, 7) = 70
            swap(1, 7, 7, 8) = true
            swap(1, 9, 7, 8) = false
            strike(1, 9) = NONE
            strikePair(1, 7, 9) = false
            merge(1, 7, 1) = 9
            grow(1, 14) = NONE
            grow(1, 7) = 9
            halve(1, 7) = 4
            halve(1, 9) = NONE
            twice(1, 7) = 8
            raise(1, 5) = 4
            sift(1, 99) = 0
            strikeValue(1, 99) = false
            pour(0, 1) = 4
            pour(1, 2) = 4
            thin(1, 0, false) = 3
            ledger(2) = 1
            """);
        RUNS.run("not broken by other books or by nothing", FOUR_PAIRS + """
            put(0, 9, 9) = NONE
            tail(1, 1, true) = 0
            head(1, 99, true) = 1
            tail(0, 0, true) = 2
            walk(1) = 4
            thin(1, 0, true) = 0
            put(0, 1, 1) = NONE
            clear(0) = 2
            viewPut(2, 9, 9) = NONE
            viewClear(2) = 1
            copy(1, 0) = 1
            viewPut(0, 2, 2) = OUT
            viewPut(1, 2, 3) = 2
            viewStrike(1, 3) = NONE
            viewStrike(1, 6) = NONE
            viewMerge(1, 2, 1) = 4
            viewMerge(0, 9, 1) = OUT
            viewPoll(0, true) = NONE
            viewClear(0) = 0
            shut(1) = 2
            ledger(2) = 0
            step() = 4
            poll(2, true) = NONE
            clear(2) = 0
            keep(1, true) = 3
            drop() = 3
            ledger(2) = 0
            step() = 2
            """);
    }

    /** Each call that may write or strike in the book takes the pair from the hand, also if nothing changes. */
    private static void losesWhatIsAtHand() {
        String[] taking = {
            "put(1, 4, 4) = 4", "putAbsent(1, 4, 4) = 4", "replace(1, 99, 4) = NONE", "swap(1, 4, 5, 6) = false",
            "strike(1, 99) = NONE", "strikePair(1, 4, 5) = false", "merge(1, 4, 1) = 5", "grow(1, 14) = NONE",
            "halve(1, 99) = NONE", "twice(1, 3) = 6", "raise(1, 0) = 0", "sift(1, 99) = 0", "strikeValue(1, 99) = false",
            "pour(0, 1) = 4", "thin(1, 0, true) = 0", "viewPut(0, 4, 4) = OUT", "viewStrike(0, 4) = NONE",
            "viewMerge(0, 4, 4) = OUT", "viewPoll(0, true) = NONE", "viewClear(0) = 0",
        };
        for (String call : taking) {
            Rangeledger ledger = RUNS.run("takes by " + call, FOUR_PAIRS + """
                tail(1, 1, true) = 0
                walk(1) = 4
                step() = 4
                ledger(3) = 4
                """);
            RUNS.goOn(ledger, "takes by " + call, call);
            RUNS.goOn(ledger, "taken by " + call, """
                ledger(2) = 0
                ledger(3) = NONE
                write(1) ! IllegalStateException
                step() = 2
                ledger(3) = 2
                write(1) = 2
                drop() = 3
                """);
        }
        RUNS.run("a step that finds nothing gives nothing back", """
            put(1, 4, 4) = NONE
            walk(1) = 1
            step() = 4
            put(1, 4, 5) = 4
            step() = NONE
            ledger(3) = NONE
            write(1) ! IllegalStateException
            drop() = 0
            """);
    }

    private static void holdsWhatIsAtHand() {
        RUNS.run("held", FOUR_PAIRS + """
            put(0, 1, 4) = NONE
            put(1, 5, 4) = NONE
            tail(0, 1, true) = 0
            tail(1, 1, true) = 1
            walk(1) = 5
            step() = 4
            put(3, 1, 1) ! IndexOutOfBoundsException
            put(1, 100, 1) ! IllegalArgumentException
            strikeValue(1, 4) ! IllegalStateException
            raise(1, 1000) ! IllegalArgumentException
            sift(1, 1) ! IllegalArgumentException
            pour(1, 1) ! IllegalArgumentException
            thin(1, 1, true) ! IllegalArgumentException
            viewPut(1, 1, 10000) ! IllegalArgumentException
            viewStrike(2, 1) ! IndexOutOfBoundsException
            write(10000) ! IllegalArgumentException
            ledger(3) = 4
            put(0, 4, 4) = NONE
            viewClear(0) = 2
            thin(0, 1, true) = 0
            pour(1, 0) = 5
            copy(1, 2) = 0
            clear(0) = 5
            shut(1) = 0
            tail(1, 2, true) = 1
            part(1, 5, true, 3, true) = 2
            sub(1, 3, true, 4, true) = OUT
            keep(1, true) = 3
            brand(1) = OUT
            knock() = 1
            get(1, 4) = 4
            row(1) = {4=4, 2=2, 7=7, 5=4, 3=3}
            isSound() = true
            ledger(3) = 4
            write(40) = 4
            ledger(3) = 4
            drop() = 4
            ledger(3) = NONE
            """);
    }

    private static void keeps() {
        RUNS.run("promise 35", FOUR_PAIRS + """
            keep(0, false) = NONE
            ledger(4) = NONE
            ledger(5) = NONE
            keep(1, false) = 4
            ledger(4) = 4
            ledger(5) = 4
            put(1, 4, 44) = 4
            ledger(5) = 4
            keep(0, true) = NONE
            ledger(4) = 4
            clear(1) = 4
            ledger(4) = 4
            ledger(5) = 4
            put(1, 1, -9) = NONE
            put(1, 6, 5) = NONE
            keep(1, true) = 1
            ledger(4) = 1
            ledger(5) = -9
            copy(0, 1) = 0
            ledger(4) = 1
            ledger(5) = -9
            """);
    }

    private static void brandsAndKnocks() {
        RUNS.run("promises 36 and 37", """
            put(2, 0, 0) = NONE
            brand(5) = NONE
            keep(2, true) = 0
            brand(-9999) = OUT
            brand(9999) = OUT
            ledger(4) = 0
            ledger(5) = 0
            row(2) = {0=0}
            ledger(6) = 0
            knock() = 1
            knock() = 2
            ledger(6) = 2
            brand(1) = OUT
            ledger(6) = 2
            """);
    }

    private static void refusals() {
        RUNS.run("promises 30 to 37 refused", """
            walk(3) ! IndexOutOfBoundsException
            walk(-1) ! IndexOutOfBoundsException
            viewWalk(0) ! IndexOutOfBoundsException
            viewWalk(-1) ! IndexOutOfBoundsException
            viewWalk(4) ! IndexOutOfBoundsException
            ledger(1) = NONE
            keep(3, true) ! IndexOutOfBoundsException
            keep(-1, false) ! IndexOutOfBoundsException
            brand(10000) ! IllegalArgumentException
            brand(-10000) ! IllegalArgumentException
            """);
    }
}
