/** The boundary cases of the Description's section 4 and of promises 20 to 29, sentence by sentence. */
public final class ViewEdgesTest {

    private static final Edges EDGES = new Edges();

    public static void main(String[] args) {
        numbers();
        within();
        withinOneKey();
        throughViews();
        partsOfViews();
        headsAndTails();
        subs();
        parts();
        shuts();
        writes();
        strikes();
        merges();
        polls();
        clears();
        EDGES.end(20, 29);
    }

    private static void numbers() {
        EDGES.sentence("At most 4 are open, with the numbers 0 to 3", """
            ledger(0) = 0
            head(0, 0, true) = 0
            tail(1, 0, true) = 1
            sub(2, 0, true, 0, true) = 2
            part(0, 0, true, 0, true) = 3
            ledger(0) = 4
            head(1, 5, true) ! IllegalStateException
            tail(1, 5, true) ! IllegalStateException
            sub(1, 5, true, 5, true) ! IllegalStateException
            part(0, 0, true, 0, true) ! IllegalStateException
            viewRow(3) = {}
            viewRow(4) ! IndexOutOfBoundsException
            viewRow(-1) ! IndexOutOfBoundsException
            shut(3) = 0
            viewRow(3) ! IndexOutOfBoundsException
            head(1, 5, true) = 3
            """);
        EDGES.sentence("a new one gets the smallest number that is free", """
            head(0, 10, true) = 0
            head(0, 11, true) = 1
            head(0, 12, true) = 2
            head(0, 13, true) = 3
            shut(2) = 0
            shut(0) = 0
            shut(3) = 0
            tail(1, 5, true) = 0
            sub(1, 4, true, 5, true) = 2
            part(0, 3, true, 1, true) = 3
            shut(1) = 0
            part(3, 3, true, 1, true) = 1
            ofView(0, 2) = 5
            ofView(1, 3) = 1
            ofView(2, 2) = 4
            ofView(3, 2) = 3
            # all four are shut by a copy, and free again from 0 on
            copy(0, 1) = 4
            sub(1, 5, true, 5, true) = 0
            """);
    }

    private static void within() {
        EDGES.sentence("all KEYS from a bound on, or up to a bound, or between two (each bound itself is in it or not)", Runs.full(0) + """
            tail(0, 98, true) = 0
            viewRow(0) = {98=98, 99=99}
            tail(0, 98, false) = 1
            viewRow(1) = {99=99}
            head(0, 1, true) = 2
            viewRow(2) = {0=0, 1=1}
            head(0, 1, false) = 3
            viewRow(3) = {0=0}
            copy(0, 2) = 0
            shut(0) = 2
            shut(1) = 1
            shut(2) = 2
            shut(3) = 1
            sub(0, 0, true, 99, true) = 0
            ofView(0, 0) = 100
            sub(0, 0, false, 99, true) = 1
            ofView(1, 0) = 99
            ofView(1, 6) = 1
            sub(0, 0, true, 99, false) = 2
            ofView(2, 0) = 99
            ofView(2, 7) = 98
            sub(0, 0, false, 99, false) = 3
            ofView(3, 0) = 98
            """);
        EDGES.sentence("A KEY is WITHIN a VIEW, if it is not ahead of its lower bound, nor behind its upper one by the ORDER, nor a bound that is not in it.", """
            sub(1, 4, true, 3, false) = 0
            viewPut(0, 6, 1) = OUT
            viewPut(0, 98, 1) = OUT
            viewPut(0, 4, 4) = NONE
            viewPut(0, 2, 2) = NONE
            viewPut(0, 0, 0) = NONE
            viewPut(0, 99, 99) = NONE
            viewPut(0, 5, 5) = NONE
            viewPut(0, 3, 3) = OUT
            viewPut(0, 1, 1) = OUT
            viewRow(0) = {4=4, 2=2, 0=0, 99=99, 5=5}
            sub(2, 1, false, 64, true) = 1
            viewPut(1, 0, 0) = OUT
            viewPut(1, 1, 1) = OUT
            viewPut(1, 4, 4) = NONE
            viewPut(1, 16, 16) = NONE
            viewPut(1, 64, 64) = NONE
            viewPut(1, 65, 65) = OUT
            viewPut(1, 17, 17) = OUT
            viewRow(1) = {4=4, 16=16, 64=64}
            """);
    }

    private static void withinOneKey() {
        EDGES.sentence("nor a bound that is not in it", """
            put(0, 5, 50) = NONE
            sub(0, 5, true, 5, true) = 0
            sub(0, 5, true, 5, false) = 1
            sub(0, 5, false, 5, true) = 2
            sub(0, 5, false, 5, false) = 3
            viewRow(0) = {5=50}
            viewRow(1) = {}
            viewRow(2) = {}
            viewRow(3) = {}
            viewPut(0, 5, 51) = 50
            viewPut(1, 5, 52) = OUT
            viewPut(2, 5, 52) = OUT
            viewPut(3, 5, 52) = OUT
            viewMerge(1, 5, 1) = OUT
            viewStrike(2, 5) = NONE
            viewClear(3) = 0
            viewPoll(1, false) = NONE
            viewNear(1, 5, 1) = NONE
            viewNear(2, 5, 2) = NONE
            viewNear(3, 99, 0) = NONE
            viewNear(3, 0, 3) = NONE
            row(0) = {5=51}
            isSound() = true
            """);
        EDGES.sentence("all KEYS from a bound on, or up to a bound", """
            # the bounds at both ends of the keys
            head(0, 0, false) = 0
            viewPut(0, 0, 1) = OUT
            tail(0, 99, false) = 1
            viewPut(1, 99, 1) = OUT
            head(0, 0, true) = 2
            viewPut(2, 1, 1) = OUT
            viewPut(2, 0, 1) = NONE
            tail(0, 99, true) = 3
            viewPut(3, 98, 1) = OUT
            viewPut(3, 99, 2) = NONE
            row(0) = {0=1, 99=2}
            ofView(0, 0) = 0
            ofView(1, 0) = 0
            """);
    }

    private static void throughViews() {
        EDGES.sentence("A VIEW shows the PAIRS of the BOOK whose KEYS are WITHIN, by the ORDER", """
            sub(1, 6, false, 5, true) = 0
            viewRow(0) = {}
            put(1, 3, 30) = NONE
            put(1, 5, 50) = NONE
            put(1, 7, 70) = NONE
            put(1, 2, 20) = NONE
            put(1, 4, 40) = NONE
            put(1, 6, 60) = NONE
            row(1) = {6=60, 4=40, 2=20, 7=70, 5=50, 3=30}
            viewRow(0) = {4=40, 2=20, 7=70, 5=50}
            viewGet(0, 6) = NONE
            viewGet(0, 5) = 50
            viewGet(0, 3) = NONE
            tail(2, 1, false) = 1
            pour(1, 2) = 6
            row(2) = {4=40, 5=50, 6=60, 7=70, 2=20, 3=30}
            viewRow(1) = {4=40, 5=50, 6=60, 7=70, 2=20, 3=30}
            sub(2, 5, true, 2, false) = 2
            viewRow(2) = {5=50, 6=60, 7=70}
            """);
        EDGES.sentence("who writes in the BOOK, or through another VIEW, writes in it, too", """
            sub(0, 10, true, 20, true) = 0
            head(0, 20, false) = 1
            tail(2, 1, true) = 2
            put(0, 20, 1) = NONE
            viewRow(0) = {20=1}
            viewRow(1) = {}
            viewPut(1, 19, 2) = NONE
            viewRow(0) = {19=2, 20=1}
            viewPut(0, 10, 3) = NONE
            viewRow(1) = {10=3, 19=2}
            raise(0, 5) = 3
            viewRow(0) = {10=8, 19=7, 20=6}
            viewPoll(1, true) = 19
            viewRow(0) = {10=8, 20=6}
            pour(0, 2) = 2
            viewRow(2) = {20=6, 10=8}
            clear(0) = 2
            viewRow(0) = {}
            viewRow(2) = {20=6, 10=8}
            copy(2, 1) = 0
            put(1, 2, 2) = NONE
            viewRow(2) = {20=6, 10=8}
            """);
        EDGES.sentence("Through a VIEW one can write a KEY that is WITHIN; any other one is OUT.", """
            put(0, 9, 9) = NONE
            put(0, 21, 21) = NONE
            sub(0, 10, true, 20, true) = 0
            viewPut(0, 9, 1) = OUT
            viewPut(0, 10, 1) = NONE
            viewPut(0, 20, 1) = NONE
            viewPut(0, 21, 1) = OUT
            viewMerge(0, 9, 1) = OUT
            viewMerge(0, 10, 1) = 2
            viewMerge(0, 20, 1) = 2
            viewMerge(0, 21, -21) = OUT
            row(0) = {9=9, 10=2, 20=2, 21=21}
            """);
        EDGES.sentence("To strike through it strikes what it shows alone.", """
            put(0, 9, 9) = NONE
            put(0, 10, 10) = NONE
            put(0, 20, 20) = NONE
            put(0, 21, 21) = NONE
            sub(0, 9, false, 21, false) = 0
            viewStrike(0, 9) = NONE
            viewStrike(0, 21) = NONE
            viewStrike(0, 0) = NONE
            viewStrike(0, 99) = NONE
            viewPoll(0, false) = 10
            viewPoll(0, true) = 20
            viewPoll(0, true) = NONE
            viewPoll(0, false) = NONE
            viewClear(0) = 0
            row(0) = {9=9, 21=21}
            """);
    }

    private static void partsOfViews() {
        EDGES.sentence("both its bounds have to be WITHIN that one (OUT otherwise, also with a bound that neither of them has in it)", """
            sub(0, 10, false, 20, false) = 0
            part(0, 10, true, 15, true) = OUT
            part(0, 10, false, 15, true) = OUT
            part(0, 15, true, 20, true) = OUT
            part(0, 15, true, 20, false) = OUT
            part(0, 9, true, 15, true) = OUT
            part(0, 15, true, 21, true) = OUT
            part(0, 10, false, 20, false) = OUT
            part(0, 10, false, 10, false) = OUT
            ledger(0) = 1
            part(0, 11, true, 19, true) = 1
            part(0, 11, false, 19, false) = 2
            ledger(0) = 3
            """);
        EDGES.sentence("it shows the PAIRS that are between them", Runs.full(0) + """
            sub(0, 10, true, 20, true) = 0
            part(0, 10, true, 20, true) = 1
            ofView(1, 0) = 11
            part(0, 10, false, 20, false) = 2
            ofView(2, 6) = 11
            ofView(2, 7) = 19
            ofView(2, 0) = 9
            part(2, 11, true, 11, true) = 3
            viewRow(3) = {11=11}
            shut(3) = 1
            part(2, 11, true, 11, false) = 3
            viewRow(3) = {}
            viewPut(2, 20, 0) = OUT
            viewPut(2, 10, 0) = OUT
            """);
        EDGES.sentence("If its lower bound is behind its upper one, it is OUT, too.", """
            tail(1, 98, true) = 0
            part(0, 1, true, 98, true) = OUT
            part(0, 96, true, 98, true) = OUT
            part(0, 98, true, 96, true) = 1
            part(0, 99, true, 0, true) = OUT
            part(0, 0, true, 99, true) = 2
            part(0, 50, true, 50, true) = 3
            """);
        EDGES.sentence("It stays, if the first one is shut.", """
            put(0, 15, 1) = NONE
            sub(0, 10, true, 20, true) = 0
            part(0, 15, true, 20, false) = 1
            shut(0) = 1
            viewRow(1) = {15=1}
            viewPut(1, 19, 2) = NONE
            viewPut(1, 20, 2) = OUT
            part(1, 19, true, 19, true) = 0
            shut(1) = 2
            viewRow(0) = {19=2}
            """);
        EDGES.sentence("A VIEW onto a part of a VIEW", """
            # one that lets no key in has no part
            sub(0, 5, false, 5, false) = 0
            part(0, 5, true, 5, true) = OUT
            part(0, 5, false, 5, false) = OUT
            sub(0, 5, true, 5, false) = 1
            part(1, 5, true, 5, true) = OUT
            sub(0, 5, true, 5, true) = 2
            part(2, 5, false, 5, false) = 3
            viewPut(3, 5, 1) = OUT
            """);
    }

    private static void headsAndTails() {
        EDGES.promise(20, "Returns its number.", """
            head(0, -1, true) ! IllegalArgumentException
            head(0, 0, true) = 0
            head(0, 99, false) = 1
            head(0, 100, true) ! IllegalArgumentException
            head(-1, 0, true) ! IndexOutOfBoundsException
            head(2, 0, true) = 2
            head(3, 0, true) ! IndexOutOfBoundsException
            put(0, 98, 1) = NONE
            put(0, 99, 2) = NONE
            viewRow(1) = {98=1}
            """);
        EDGES.promise(20, "Throws `IllegalStateException` if 4 are open", """
            head(0, 0, true) = 0
            head(1, 0, true) = 1
            head(2, 0, true) = 2
            head(0, 0, true) = 3
            head(0, 0, true) ! IllegalStateException
            head(2, 99, false) ! IllegalStateException
            shut(1) = 0
            head(0, 0, true) = 1
            """);
        EDGES.promise(21, "Returns its number.", """
            tail(0, -1, true) ! IllegalArgumentException
            tail(0, 0, false) = 0
            tail(0, 99, true) = 1
            tail(0, 100, true) ! IllegalArgumentException
            tail(-1, 0, true) ! IndexOutOfBoundsException
            tail(2, 0, true) = 2
            tail(3, 0, true) ! IndexOutOfBoundsException
            put(0, 0, 1) = NONE
            put(0, 1, 2) = NONE
            viewRow(0) = {1=2}
            """);
        EDGES.promise(21, "Throws `IllegalStateException` if 4 are open", """
            tail(0, 0, true) = 0
            tail(1, 0, true) = 1
            tail(2, 0, true) = 2
            tail(0, 0, true) = 3
            tail(0, 0, true) ! IllegalStateException
            tail(2, 99, false) ! IllegalStateException
            shut(3) = 0
            tail(0, 0, true) = 3
            """);
    }

    private static void subs() {
        EDGES.promise(22, "Returns its number; OUT, if the lower bound is behind the upper one (none is opened then; with 4 open the exception).", """
            sub(0, 1, true, 0, true) = OUT
            sub(0, 1, false, 0, false) = OUT
            sub(0, 99, true, 0, true) = OUT
            ledger(0) = 0
            sub(0, 0, true, 0, true) = 0
            sub(0, 0, false, 1, false) = 1
            sub(0, 0, true, 99, true) = 2
            sub(0, 1, true, 0, true) = OUT
            ledger(0) = 3
            sub(0, 99, true, 99, true) = 3
            sub(0, 1, true, 0, true) ! IllegalStateException
            sub(0, 0, true, 1, true) ! IllegalStateException
            shut(0) = 0
            sub(0, 1, true, 0, true) = OUT
            """);
        EDGES.promise(22, "Throws `IllegalArgumentException` if from or to is not 0 to 99", """
            sub(0, -1, true, 0, true) ! IllegalArgumentException
            sub(0, 0, true, -1, true) ! IllegalArgumentException
            sub(0, 100, true, 99, true) ! IllegalArgumentException
            sub(0, 99, true, 100, true) ! IllegalArgumentException
            sub(3, 0, true, 0, true) ! IndexOutOfBoundsException
            sub(-1, 0, true, 0, true) ! IndexOutOfBoundsException
            ledger(0) = 0
            """);
    }

    private static void parts() {
        EDGES.promise(23, "Returns its number; OUT, if from or to is not WITHIN that one, or from is behind to (none is opened then; with 4 open the exception).", """
            sub(2, 1, true, 17, false) = 0
            part(0, 0, true, 16, true) = OUT
            part(0, 1, true, 17, true) = OUT
            part(0, 1, true, 2, true) = OUT
            part(0, 16, true, 1, true) = OUT
            ledger(0) = 1
            part(0, 1, false, 16, true) = 1
            part(0, 64, true, 67, true) = 2
            part(1, 1, true, 16, true) = OUT
            part(1, 4, true, 16, true) = 3
            part(0, 0, true, 16, true) ! IllegalStateException
            part(0, 16, true, 1, true) ! IllegalStateException
            part(0, 1, true, 16, true) ! IllegalStateException
            shut(0) = 0
            part(0, 1, true, 16, true) ! IndexOutOfBoundsException
            part(1, 16, true, 1, true) = OUT
            """);
        EDGES.promise(23, "Throws `IndexOutOfBoundsException` if no such VIEW is open", """
            part(0, 0, true, 0, true) ! IndexOutOfBoundsException
            tail(0, 0, true) = 0
            part(-1, 0, true, 0, true) ! IndexOutOfBoundsException
            part(1, 0, true, 0, true) ! IndexOutOfBoundsException
            part(4, 0, true, 0, true) ! IndexOutOfBoundsException
            part(0, -1, true, 0, true) ! IllegalArgumentException
            part(0, 0, true, -1, true) ! IllegalArgumentException
            part(0, 0, true, 100, true) ! IllegalArgumentException
            part(0, 100, true, 99, true) ! IllegalArgumentException
            part(0, 0, true, 99, true) = 1
            """);
    }

    private static void shuts() {
        EDGES.promise(24, "Returns how many PAIRS it showed.", Runs.full(0) + """
            shut(0) ! IndexOutOfBoundsException
            tail(0, 0, true) = 0
            head(0, 0, false) = 1
            head(1, 99, true) = 2
            sub(0, 99, true, 99, true) = 3
            shut(-1) ! IndexOutOfBoundsException
            shut(4) ! IndexOutOfBoundsException
            shut(0) = 100
            shut(0) ! IndexOutOfBoundsException
            shut(1) = 0
            shut(2) = 0
            shut(3) = 1
            shut(3) ! IndexOutOfBoundsException
            ledger(0) = 0
            ofBook(0, 0) = 100
            """);
        EDGES.promise(24, "Shuts a VIEW (a WALK in it goes on).", """
            put(0, 5, 5) = NONE
            put(0, 6, 6) = NONE
            put(0, 7, 7) = NONE
            head(0, 6, true) = 0
            viewWalk(0) = 2
            step() = 5
            shut(0) = 2
            ledger(3) = 5
            write(50) = 5
            # its number is that of another view now
            tail(0, 7, true) = 0
            drop() = 2
            step() = 6
            step() = NONE
            drop() = 1
            row(0) = {7=7}
            """);
    }

    private static void writes() {
        EDGES.promise(25, "Returns the VALUE that it had before; NONE, if it was not there; OUT, if it is not WITHIN (nothing is written then).", Runs.full(0) + """
            sub(0, 0, true, 98, true) = 0
            viewPut(0, 99, 1) = OUT
            get(0, 99) = 99
            viewPut(0, 98, -9999) = 98
            viewPut(0, 98, 9999) = -9999
            viewPut(0, 0, 1) = 0
            strike(0, 0) = 1
            viewPut(0, 0, 2) = NONE
            strike(0, 99) = 99
            viewPut(0, 99, 1) = OUT
            has(0, 99) = false
            viewPut(0, 100, 1) ! IllegalArgumentException
            viewPut(0, -1, 1) ! IllegalArgumentException
            viewPut(0, 99, 10000) ! IllegalArgumentException
            viewPut(0, 98, -10000) ! IllegalArgumentException
            viewPut(1, 98, 0) ! IndexOutOfBoundsException
            """);
    }

    private static void strikes() {
        EDGES.promise(26, "Returns the VALUE that it had; NONE, if the VIEW does not show it.", Runs.full(0) + """
            sub(0, 1, true, 98, true) = 0
            viewStrike(0, 0) = NONE
            viewStrike(0, 99) = NONE
            viewStrike(0, 1) = 1
            viewStrike(0, 98) = 98
            viewStrike(0, 98) = NONE
            ofBook(0, 0) = 98
            ofBook(0, 3) = 0
            ofBook(0, 5) = 99
            viewStrike(0, 100) ! IllegalArgumentException
            viewStrike(0, -1) ! IllegalArgumentException
            viewStrike(1, 5) ! IndexOutOfBoundsException
            """);
    }

    private static void merges() {
        EDGES.promise(27, "Returns the VALUE that it has then; NONE, if it was struck; OUT, if it is not WITHIN (nothing changes then).", Runs.full(0) + """
            sub(0, 1, true, 98, true) = 0
            viewMerge(0, 0, 1) = OUT
            viewMerge(0, 99, -99) = OUT
            viewMerge(0, 98, -98) = NONE
            viewMerge(0, 98, 0) = 0
            viewMerge(0, 98, 9999) = 9999
            viewMerge(0, 98, 1) = 9999
            viewMerge(0, 1, -9999) = -9998
            viewMerge(0, 1, -2) = -9999
            ofBook(0, 0) = 100
            get(0, 0) = 0
            get(0, 99) = 99
            viewMerge(0, 100, 1) ! IllegalArgumentException
            viewMerge(0, -1, 1) ! IllegalArgumentException
            viewMerge(0, 1, 10000) ! IllegalArgumentException
            viewMerge(0, 99, -10000) ! IllegalArgumentException
            viewMerge(1, 1, 1) ! IndexOutOfBoundsException
            """);
    }

    private static void polls() {
        EDGES.promise(28, "Returns its KEY; NONE, if it shows none.", Runs.full(1) + """
            sub(1, 98, false, 1, false) = 0
            viewPoll(0, false) = 96
            viewPoll(0, true) = 3
            sub(1, 0, true, 99, true) = 1
            viewPoll(1, true) = 99
            viewPoll(1, true) = 0
            viewPoll(1, true) = NONE
            viewPoll(1, false) = NONE
            sub(1, 98, true, 98, true) = 2
            viewPoll(2, false) = 98
            viewPoll(2, false) = NONE
            ofBook(1, 0) = 95
            tail(0, 0, true) = 3
            viewPoll(3, true) = NONE
            viewPoll(4, true) ! IndexOutOfBoundsException
            viewPoll(-1, false) ! IndexOutOfBoundsException
            """);
    }

    private static void clears() {
        EDGES.promise(29, "Returns how many.", Runs.full(0) + """
            tail(1, 0, true) = 0
            viewClear(0) = 0
            sub(0, 50, false, 50, false) = 1
            viewClear(1) = 0
            sub(0, 99, true, 99, true) = 2
            viewClear(2) = 1
            viewClear(2) = 0
            sub(0, 0, false, 98, false) = 3
            viewClear(3) = 97
            row(0) = {0=0, 98=98}
            shut(0) = 0
            head(0, 99, true) = 0
            viewClear(0) = 2
            row(0) = {}
            shut(1) = 0
            viewClear(1) ! IndexOutOfBoundsException
            viewClear(4) ! IndexOutOfBoundsException
            viewClear(-1) ! IndexOutOfBoundsException
            """);
        EDGES.promise(29, "STRIKES all KEYS that a VIEW shows.", Runs.full(2) + """
            tail(2, 0, true) = 0
            viewClear(0) = 100
            row(2) = {}
            """);
    }
}
