/** The boundary cases of the Description's section 5 and of promises 30 to 37, sentence by sentence. */
public final class WalkEdgesTest {

    private static final Edges EDGES = new Edges();

    private static final String THREE_PAIRS = """
        put(0, 0, 10) = NONE
        put(0, 50, 20) = NONE
        put(0, 99, 30) = NONE
        """;

    public static void main(String[] args) {
        oneWalk();
        broken();
        staysBroken();
        atHand();
        callsThatTakeFromTheHand();
        atHandTillARefusal();
        keptAndRefused();
        walks();
        viewWalks();
        steps();
        writes();
        drops();
        keeps();
        brandsAndKnocks();
        EDGES.end(30, 37);
    }

    private static void oneWalk() {
        EDGES.sentence("A WALK goes through a BOOK or a VIEW by its ORDER, PAIR by PAIR: each STEP comes to the next PAIR", """
            put(1, 0, 0) = NONE
            put(1, 99, 99) = NONE
            put(1, 98, 98) = NONE
            put(1, 1, 1) = NONE
            walk(1) = 4
            step() = 98
            step() = 0
            step() = 99
            step() = 1
            step() = NONE
            sub(1, 98, false, 1, false) = 0
            viewWalk(0) = 2
            step() = 0
            step() = 99
            step() = NONE
            """);
        EDGES.sentence("there is one WALK at most (a new one takes the place of that before)", THREE_PAIRS + """
            put(2, 5, 5) = NONE
            ledger(1) = NONE
            walk(0) = 3
            step() = 0
            walk(2) = 1
            ledger(1) = 2
            ledger(3) = NONE
            write(1) ! IllegalStateException
            drop() ! IllegalStateException
            # keys that come into the book of the walk before are nothing to this one
            put(0, 1, 1) = NONE
            ledger(2) = 0
            step() = 5
            walk(3) ! IndexOutOfBoundsException
            viewWalk(0) ! IndexOutOfBoundsException
            ledger(3) = 5
            walk(2) = 1
            ledger(3) = NONE
            step() = 5
            """);
    }

    private static void broken() {
        EDGES.sentence("It is BROKEN, as KEYS come into its BOOK or go from it otherwise than by the WALK itself", THREE_PAIRS + """
            walk(0) = 3
            put(0, 1, 1) = NONE
            ledger(2) = 1
            walk(0) = 4
            ledger(2) = 0
            step() = 0
            drop() = 3
            ledger(2) = 0
            step() = 1
            strike(0, 99) = 30
            ledger(2) = 1
            step() ! IllegalStateException
            write(0) ! IllegalStateException
            drop() ! IllegalStateException
            ledger(1) = 0
            """);
        EDGES.sentence("(by whatever call, through VIEWS, too; not by VALUES that change, nor by a call by which no KEY comes or goes)", THREE_PAIRS + """
            head(0, 50, false) = 0
            tail(0, 50, true) = 1
            viewWalk(0) = 1
            # a key that the view of the walk does not show
            viewStrike(1, 99) = 30
            ledger(2) = 1
            viewWalk(0) = 1
            viewPut(1, 99, 30) = NONE
            ledger(2) = 1
            viewWalk(0) = 1
            raise(0, 1) = 3
            viewPut(0, 0, 5) = 11
            viewPut(0, 50, 5) = OUT
            viewStrike(0, 50) = NONE
            put(0, 0, 0) = 5
            strike(0, 1) = NONE
            sift(0, 99) = 1
            ledger(2) = 1
            viewWalk(0) = 0
            sift(0, 99) = 0
            pour(1, 0) = 2
            thin(0, 1, true) = 0
            ledger(2) = 0
            step() = NONE
            """);
        EDGES.sentence("nor by a call by which no KEY comes or goes", """
            tail(0, 0, true) = 0
            walk(0) = 0
            clear(0) = 0
            poll(0, false) = NONE
            poll(0, true) = NONE
            viewClear(0) = 0
            viewPoll(0, true) = NONE
            pour(1, 0) = 0
            thin(0, 1, true) = 0
            thin(0, 1, false) = 0
            grow(0, 7) = NONE
            halve(0, 7) = NONE
            replace(0, 7, 7) = NONE
            raise(0, 1) = 0
            sift(0, 2) = 0
            strikeValue(0, 0) = false
            ledger(2) = 0
            step() = NONE
            """);
        EDGES.sentence("not by VALUES that change", Runs.full(0) + """
            pour(0, 1) = 100
            pour(0, 2) = 100
            raise(1, 1) = 100
            walk(0) = 100
            step() = 0
            pour(1, 0) = 100
            ledger(2) = 0
            step() = 1
            # with the very same keys in both, too
            thin(0, 1, false) = 0
            ledger(2) = 0
            thin(0, 1, true) = 100
            ledger(2) = 1
            """);
    }

    private static void staysBroken() {
        EDGES.sentence("and stays so", THREE_PAIRS + """
            walk(0) = 3
            step() = 0
            strike(0, 0) = 10
            put(0, 0, 10) = NONE
            ledger(2) = 1
            step() ! IllegalStateException
            write(1) ! IllegalStateException
            drop() ! IllegalStateException
            walk(0) = 3
            put(0, 1, 1) = NONE
            strike(0, 1) = 1
            ledger(2) = 1
            step() ! IllegalStateException
            """);
    }

    private static void atHand() {
        EDGES.sentence("The PAIR of the last STEP is AT HAND (behind write(), too) till it is dropped", THREE_PAIRS + """
            walk(0) = 3
            ledger(3) = NONE
            write(1) ! IllegalStateException
            step() = 0
            ledger(3) = 0
            write(11) = 10
            ledger(3) = 0
            write(12) = 11
            drop() = 2
            ledger(3) = NONE
            write(1) ! IllegalStateException
            step() = 50
            ledger(3) = 50
            step() = 99
            ledger(3) = 99
            """);
        EDGES.sentence("till some call is not refused that may write or strike in that BOOK", THREE_PAIRS + """
            walk(0) = 3
            step() = 0
            put(0, 0, 10) = 10
            ledger(3) = NONE
            write(1) ! IllegalStateException
            # the pair is not at hand, but still that of the last step
            drop() = 2
            step() = 50
            strike(0, 1) = NONE
            ledger(3) = NONE
            step() = 99
            ledger(3) = 99
            poll(1, true) = NONE
            ledger(3) = 99
            """);
        EDGES.sentence("(for the BOOK that changes by them)", THREE_PAIRS + """
            walk(0) = 3
            step() = 0
            pour(0, 1) = 3
            copy(0, 2) = 0
            thin(1, 0, false) = 0
            ledger(3) = 0
            pour(1, 0) = 3
            ledger(3) = NONE
            step() = 50
            thin(0, 2, false) = 0
            ledger(3) = NONE
            step() = 99
            """);
        EDGES.sentence("also if nothing changes by it, or it tells OUT", THREE_PAIRS + """
            head(0, 1, false) = 0
            walk(0) = 3
            step() = 0
            viewPut(0, 1, 1) = OUT
            ledger(3) = NONE
            step() = 50
            viewMerge(0, 1, 1) = OUT
            ledger(3) = NONE
            step() = 99
            viewStrike(0, 1) = NONE
            ledger(3) = NONE
            write(1) ! IllegalStateException
            step() = NONE
            ledger(3) = NONE
            """);
    }

    private static void callsThatTakeFromTheHand() {
        String atHand = """
            walk(0) = 3
            step() = 0
            ledger(3) = 0
            """;
        // Each of them such that no key comes or goes: the walk is not broken, but the pair is at hand no more.
        String[] taking = {
            "put(0, 0, 10) = 10", "putAbsent(0, 0, 10) = 10", "replace(0, 1, 10) = NONE", "swap(0, 0, 11, 12) = false",
            "strike(0, 1) = NONE", "strikePair(0, 0, 11) = false", "merge(0, 0, 0) = 10", "grow(0, 0) = 10",
            "halve(0, 1) = NONE", "twice(0, 98) = 4", "raise(0, 0) = 0", "sift(0, 99) = 0", "strikeValue(0, 11) = false",
            "pour(1, 0) = 3", "thin(0, 1, true) = 0", "viewPut(0, 1, 1) = OUT", "viewStrike(0, 1) = NONE",
            "viewMerge(0, 1, 1) = OUT", "viewPoll(0, true) = NONE", "viewClear(0) = 0",
        };
        String[] leaving = {
            "poll(1, false) = NONE", "clear(1) = 0", "pour(0, 2) = 3", "copy(0, 2) = 0", "thin(2, 0, false) = 0",
            "head(0, 5, true) = 2", "shut(2) = 1", "viewPut(1, 1, 1) = OUT", "viewPoll(1, true) = NONE", "viewClear(1) = 0",
            "keep(0, true) = 98", "brand(5) = OUT", "knock() = 1", "get(0, 0) = 10", "row(0) = {0=10, 50=20, 98=2}",
            "same(0, 2) = true", "viewNear(0, 0, 3) = NONE", "isSound() = true", "write(10) = 10",
            "walk(3) ! IndexOutOfBoundsException",
        };
        String start = "put(0, 0, 10) = NONE\nput(0, 50, 20) = NONE\nput(0, 98, 2) = NONE\n"
            + "sub(0, 1, true, 1, false) = 0\nsub(1, 1, true, 1, false) = 1\n";
        StringBuilder lines = new StringBuilder(start);
        for (String call : taking) {
            lines.append(atHand).append(call).append("\nledger(2) = 0\nledger(3) = NONE\nwrite(1) ! IllegalStateException\n");
        }
        lines.append("walk(0) = 3\nstep() = 0\npoll(0, true) = 98\nledger(3) = NONE\n");
        lines.append("walk(0) = 2\nstep() = 0\nclear(0) = 2\nledger(3) = NONE\n");
        EDGES.sentence("those under «writing in a book», those under «books with books» (for the BOOK that changes by them), "
            + "and viewPut(), viewStrike(), viewMerge(), viewPoll(), viewClear() of a VIEW onto it", lines.toString());
        EDGES.sentence("The PAIR of the last STEP is AT HAND", start + atHand + String.join("\nledger(3) = 0\n", leaving));
    }

    private static void atHandTillARefusal() {
        EDGES.sentence("till some call is not refused that may write or strike", THREE_PAIRS + """
            put(0, 60, 10) = NONE
            head(0, 50, true) = 0
            walk(0) = 4
            step() = 0
            put(0, 100, 1) ! IllegalArgumentException
            put(0, 0, 10000) ! IllegalArgumentException
            strikeValue(0, 10) ! IllegalStateException
            raise(0, 1000) ! IllegalArgumentException
            sift(0, 100) ! IllegalArgumentException
            pour(3, 0) ! IndexOutOfBoundsException
            copy(-1, 0) ! IndexOutOfBoundsException
            thin(0, 3, true) ! IndexOutOfBoundsException
            viewPut(0, 0, -10000) ! IllegalArgumentException
            viewMerge(0, 100, 0) ! IllegalArgumentException
            viewStrike(0, -1) ! IllegalArgumentException
            viewPoll(1, true) ! IndexOutOfBoundsException
            viewClear(4) ! IndexOutOfBoundsException
            ledger(3) = 0
            write(11) = 10
            """);
    }

    private static void keptAndRefused() {
        EDGES.sentence("One PAIR may be KEPT: a KEY with the VALUE that it had then; that stays, whatever becomes of the BOOK.", THREE_PAIRS + """
            keep(0, true) = 99
            put(0, 99, 31) = 30
            ledger(5) = 30
            strike(0, 99) = 31
            ledger(4) = 99
            clear(0) = 2
            keep(0, false) = NONE
            ledger(4) = 99
            copy(1, 0) = 0
            ledger(4) = 99
            ledger(5) = 30
            put(1, 0, -9999) = NONE
            keep(1, false) = 0
            ledger(4) = 0
            ledger(5) = -9999
            """);
        EDGES.sentence("who holds the glue is REFUSED (counted)", """
            ledger(6) = 0
            brand(0) = NONE
            ledger(6) = 0
            knock() = 1
            ledger(6) = 1
            knock() = 2
            put(3, 0, 0) ! IndexOutOfBoundsException
            ledger(6) = 2
            """);
    }

    private static void walks() {
        EDGES.promise(30, "Returns how many PAIRS it has.", Runs.full(2) + """
            walk(0) = 0
            step() = NONE
            walk(2) = 100
            step() = 0
            step() = 1
            walk(2) = 100
            step() = 0
            walk(-1) ! IndexOutOfBoundsException
            walk(3) ! IndexOutOfBoundsException
            ledger(1) = 2
            ledger(3) = 0
            """);
    }

    private static void viewWalks() {
        EDGES.promise(31, "Returns how many PAIRS it shows.", Runs.full(1) + """
            viewWalk(0) ! IndexOutOfBoundsException
            head(1, 98, false) = 0
            viewWalk(0) = 0
            step() = NONE
            head(1, 98, true) = 1
            viewWalk(1) = 1
            step() = 98
            step() = NONE
            tail(1, 0, false) = 2
            viewWalk(2) = 50
            step() = 99
            tail(1, 98, true) = 3
            viewWalk(3) = 100
            viewWalk(4) ! IndexOutOfBoundsException
            viewWalk(-1) ! IndexOutOfBoundsException
            step() = 98
            """);
        EDGES.promise(31, "A WALK begins, ahead of all PAIRS that a VIEW shows.", """
            put(0, 5, 5) = NONE
            sub(0, 5, false, 5, false) = 0
            viewWalk(0) = 0
            ledger(1) = 0
            ledger(3) = NONE
            step() = NONE
            drop() ! IllegalStateException
            sub(0, 5, true, 5, true) = 1
            viewWalk(1) = 1
            drop() ! IllegalStateException
            step() = 5
            drop() = 0
            """);
    }

    private static void steps() {
        EDGES.promise(32, "Returns the KEY to which it comes; NONE, if there is no PAIR more (the WALK stays where it is, and tells NONE each time; what was AT HAND is so still).", THREE_PAIRS + """
            walk(0) = 3
            step() = 0
            step() = 50
            step() = 99
            step() = NONE
            step() = NONE
            ledger(3) = 99
            write(31) = 30
            step() = NONE
            ledger(3) = 99
            drop() = 2
            step() = NONE
            ledger(3) = NONE
            drop() ! IllegalStateException
            ledger(2) = 0
            """);
        EDGES.promise(32, "Throws `IllegalStateException` if there is no WALK, or it is BROKEN", THREE_PAIRS + """
            step() ! IllegalStateException
            walk(0) = 3
            step() = 0
            clear(0) = 3
            step() ! IllegalStateException
            walk(0) = 0
            step() = NONE
            copy(1, 0) = 0
            step() ! IllegalStateException
            """);
        EDGES.promise(32, "Makes a STEP.", Runs.full(0) + everyStep());
    }

    /** A walk through a full book that drops each other pair. */
    private static String everyStep() {
        StringBuilder lines = new StringBuilder("walk(0) = 100\n");
        for (int key = 0; key < 100; key++) {
            lines.append("step() = ").append(key).append('\n');
            if (key % 2 == 1) {
                lines.append("drop() = ").append(99 - key / 2).append('\n');
            }
        }
        return lines.append("step() = NONE\nat(0, 49) = 98\nat(0, 50) = NONE\nledger(2) = 0\n").toString();
    }

    private static void writes() {
        EDGES.promise(33, "Returns the VALUE that it had before.", THREE_PAIRS + """
            walk(0) = 3
            step() = 0
            write(-9999) = 10
            write(9999) = -9999
            write(9999) = 9999
            write(0) = 9999
            step() = 50
            step() = 99
            write(0) = 30
            row(0) = {0=0, 50=20, 99=0}
            ledger(2) = 0
            """);
        EDGES.promise(33, "Throws `IllegalArgumentException` if value is not -9999 to 9999", THREE_PAIRS + """
            write(10000) ! IllegalArgumentException
            write(-10000) ! IllegalArgumentException
            walk(0) = 3
            step() = 0
            write(10000) ! IllegalArgumentException
            write(-10000) ! IllegalArgumentException
            ledger(3) = 0
            write(1) = 10
            """);
        EDGES.promise(33, "Throws `IllegalStateException` if there is no WALK, it is BROKEN, or nothing is AT HAND", THREE_PAIRS + """
            write(1) ! IllegalStateException
            walk(0) = 3
            write(1) ! IllegalStateException
            step() = 0
            drop() = 2
            write(1) ! IllegalStateException
            step() = 50
            halve(0, 1) = NONE
            write(1) ! IllegalStateException
            step() = 99
            strike(0, 50) = 20
            write(1) ! IllegalStateException
            copy(1, 0) = 0
            write(1) ! IllegalStateException
            """);
    }

    private static void drops() {
        EDGES.promise(34, "Returns how many PAIRS its BOOK has then.", THREE_PAIRS + """
            sub(0, 50, true, 50, true) = 0
            viewWalk(0) = 1
            step() = 50
            drop() = 2
            step() = NONE
            walk(0) = 2
            step() = 0
            drop() = 1
            step() = 99
            drop() = 0
            step() = NONE
            row(0) = {}
            """);
        EDGES.promise(34, "STRIKES the KEY of the last STEP: the WALK goes on behind it.", THREE_PAIRS + """
            walk(0) = 3
            step() = 0
            step() = 50
            drop() = 2
            row(0) = {0=10, 99=30}
            step() = 99
            step() = NONE
            drop() = 1
            row(0) = {0=10}
            """);
        EDGES.promise(34, "Throws `IllegalStateException` if there is no WALK, it is BROKEN, or no STEP came to a PAIR since it began, or since the last PAIR was dropped", THREE_PAIRS + """
            drop() ! IllegalStateException
            walk(0) = 3
            drop() ! IllegalStateException
            step() = 0
            drop() = 2
            drop() ! IllegalStateException
            step() = 50
            put(0, 50, 21) = 20
            drop() = 1
            step() = 99
            drop() = 0
            step() = NONE
            drop() ! IllegalStateException
            walk(0) = 0
            step() = NONE
            drop() ! IllegalStateException
            put(0, 5, 5) = NONE
            walk(0) = 1
            step() = 5
            put(0, 6, 6) = NONE
            drop() ! IllegalStateException
            has(0, 5) = true
            """);
    }

    private static void keeps() {
        EDGES.promise(35, "Returns its KEY; NONE, if there is none (what was KEPT stays then).", Runs.full(1) + """
            keep(0, false) = NONE
            keep(0, true) = NONE
            ledger(4) = NONE
            ledger(5) = NONE
            keep(1, false) = 98
            ledger(4) = 98
            keep(1, true) = 1
            ledger(4) = 1
            ledger(5) = 1
            keep(0, false) = NONE
            keep(-1, false) ! IndexOutOfBoundsException
            keep(3, true) ! IndexOutOfBoundsException
            ledger(4) = 1
            put(2, 0, 0) = NONE
            keep(2, true) = 0
            ledger(4) = 0
            ledger(5) = 0
            """);
    }

    private static void brandsAndKnocks() {
        EDGES.promise(36, "Returns OUT; NONE, if none is KEPT.", """
            brand(-10000) ! IllegalArgumentException
            brand(-9999) = NONE
            brand(9999) = NONE
            brand(10000) ! IllegalArgumentException
            put(0, 0, 0) = NONE
            brand(0) = NONE
            keep(0, false) = 0
            brand(-10000) ! IllegalArgumentException
            brand(-9999) = OUT
            brand(9999) = OUT
            brand(10000) ! IllegalArgumentException
            clear(0) = 1
            brand(0) = OUT
            ledger(4) = 0
            ledger(5) = 0
            """);
        EDGES.promise(37, "Returns how many were REFUSED ever, with this.", """
            knock() = 1
            knock() = 2
            copy(0, 1) = 0
            clear(0) = 0
            knock() = 3
            ledger(6) = 3
            """);
    }
}
