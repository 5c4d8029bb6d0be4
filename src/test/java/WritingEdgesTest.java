/** The boundary cases of the Description's sections 1 to 3 and of promises 1 to 19, sentence by sentence. */
public final class WritingEdgesTest {

    private static final Edges EDGES = new Edges();

    public static void main(String[] args) {
        numbersAndExceptions();
        booksKeysValues();
        orders();
        namesOfKeys();
        nextToAKey();
        writing();
        doublingAndBooks();
        puts();
        strikes();
        mergesAndGrows();
        halvesAndDoubles();
        polls();
        raises();
        sifts();
        strikesOfValues();
        clears();
        pours();
        copies();
        thins();
        EDGES.end(1, 19);
    }

    private static void numbersAndExceptions() {
        EDGES.sentence("NONE is -10000, OUT is -20000", """
            get(0, 0) = -10000
            sub(0, 1, true, 0, true) = -20000
            """);
        EDGES.sentence("(both are told where nothing is there, or where something is not let within bounds)", """
            poll(0, false) = NONE
            near(0, 50, 1) = NONE
            at(0, 0) = NONE
            ledger(1) = NONE
            brand(0) = NONE
            sub(0, 10, true, 20, true) = 0
            ofView(0, 6) = NONE
            viewStrike(0, 9) = NONE
            viewPut(0, 9, 0) = OUT
            viewMerge(0, 21, 0) = OUT
            part(0, 9, true, 20, true) = OUT
            part(0, 20, true, 10, true) = OUT
            put(0, 9, 0) = NONE
            keep(0, true) = 9
            brand(0) = OUT
            row(0) = {9=0}
            """);
        EDGES.sentence("Of several exceptions that apply the one that is named first is thrown", """
            put(0, 0, 4) = NONE
            put(0, 1, 4) = NONE
            put(3, 100, 10000) ! IndexOutOfBoundsException
            pour(3, 3) ! IndexOutOfBoundsException
            strikeValue(3, 10000) ! IndexOutOfBoundsException
            strikeValue(0, 10000) ! IllegalArgumentException
            strikeValue(0, 4) ! IllegalStateException
            write(10000) ! IllegalArgumentException
            write(9999) ! IllegalStateException
            head(0, 0, true) = 0
            head(0, 0, true) = 1
            head(0, 0, true) = 2
            part(3, 100, true, 100, true) ! IndexOutOfBoundsException
            head(0, 0, true) = 3
            sub(3, 100, true, 100, true) ! IndexOutOfBoundsException
            sub(0, 100, true, -1, true) ! IllegalArgumentException
            sub(0, 1, true, 0, true) ! IllegalStateException
            part(3, 100, true, 0, true) ! IllegalArgumentException
            part(3, 1, true, 0, true) ! IllegalStateException
            """);
        EDGES.sentence("a method that throws an exception changes nothing", """
            put(0, 1, 4) = NONE
            put(0, 2, 4) = NONE
            put(0, 3, 5) = NONE
            walk(0) = 3
            step() = 1
            strikeValue(0, 4) ! IllegalStateException
            swap(0, 1, 4, 10000) ! IllegalArgumentException
            swap(0, 1, 10000, 4) ! IllegalArgumentException
            walk(3) ! IndexOutOfBoundsException
            copy(0, 0) ! IllegalArgumentException
            write(10000) ! IllegalArgumentException
            write(6) = 4
            drop() = 2
            drop() ! IllegalStateException
            write(1) ! IllegalStateException
            step() = 2
            row(0) = {2=4, 3=5}
            """);
    }

    private static void booksKeysValues() {
        EDGES.sentence("There are three BOOKS, 0 to 2, without PAIRS at first.", """
            row(-1) ! IndexOutOfBoundsException
            row(0) = {}
            row(2) = {}
            row(3) ! IndexOutOfBoundsException
            put(2, 0, 0) = NONE
            row(0) = {}
            row(1) = {}
            row(2) = {0=0}
            """);
        EDGES.sentence("A PAIR is of a KEY (0 to 99) and a VALUE (-9999 to 9999)", """
            put(0, -1, 0) ! IllegalArgumentException
            put(0, 0, -9999) = NONE
            put(0, 99, 9999) = NONE
            put(0, 100, 0) ! IllegalArgumentException
            put(0, 0, -10000) ! IllegalArgumentException
            put(0, 99, 10000) ! IllegalArgumentException
            row(0) = {0=-9999, 99=9999}
            """);
        EDGES.sentence("a BOOK has each KEY once at most", Runs.full(0) + """
            ofBook(0, 0) = 100
            put(0, 0, 1) = 0
            put(0, 99, 1) = 99
            put(0, 50, 1) = 50
            merge(0, 50, 1) = 2
            twice(0, 50) = 4
            ofBook(0, 0) = 100
            place(0, 99) = 99
            strike(0, 50) = 4
            has(0, 50) = false
            ofBook(0, 0) = 99
            """);
        EDGES.sentence("As something would come to a VALUE above 9999 or below -9999, it is 9999 or -9999.", """
            put(0, 1, 9998) = NONE
            merge(0, 1, 1) = 9999
            merge(0, 1, 1) = 9999
            merge(0, 1, 9999) = 9999
            get(0, 1) = 9999
            put(0, 2, -9998) = NONE
            merge(0, 2, -1) = -9999
            merge(0, 2, -1) = -9999
            merge(0, 2, -9999) = -9999
            get(0, 2) = -9999
            raise(0, 1) = 1
            row(0) = {1=9999, 2=-9998}
            raise(0, -2) = 2
            row(0) = {1=9997, 2=-9999}
            raise(0, 999) = 2
            row(0) = {1=9999, 2=-9000}
            tail(0, 1, true) = 0
            viewMerge(0, 1, 9999) = 9999
            viewMerge(0, 2, -1000) = -9999
            row(0) = {1=9999, 2=-9999}
            """);
    }

    private static void orders() {
        EDGES.sentence("Each BOOK has an ORDER of all KEYS; the BOOK k has the ORDER k at first.", """
            ofBook(0, 1) = 0
            ofBook(1, 1) = 1
            ofBook(2, 1) = 2
            """);
        EDGES.sentence("ORDER 0: by rising numbers.", Runs.full(0) + """
            at(0, 0) = 0
            at(0, 1) = 1
            at(0, 98) = 98
            at(0, 99) = 99
            at(0, 100) = NONE
            isSound() = true
            """);
        EDGES.sentence("ORDER 1: even KEYS ahead of odd ones; of two even ones, or two odd ones, the greater one ahead.",
            Runs.full(1) + """
            at(1, 0) = 98
            at(1, 1) = 96
            at(1, 48) = 2
            at(1, 49) = 0
            at(1, 50) = 99
            at(1, 51) = 97
            at(1, 98) = 3
            at(1, 99) = 1
            at(1, 100) = NONE
            near(1, 0, 3) = 99
            near(1, 99, 0) = 0
            isSound() = true
            """);
        EDGES.sentence("AHEAD and BEHIND are by the ORDER of the BOOK", """
            sub(0, 98, true, 0, true) = OUT
            sub(1, 98, true, 0, true) = 0
            sub(1, 0, true, 98, true) = OUT
            sub(1, 0, true, 99, true) = 1
            sub(1, 99, true, 0, true) = OUT
            sub(2, 64, true, 17, true) = 2
            sub(2, 17, true, 64, true) = OUT
            """);
        EDGES.sentence("the ROW of a BOOK has its PAIRS by its ORDER, numbered from 0: that is the PLACE of a PAIR", """
            put(1, 1, 10) = NONE
            put(1, 2, 20) = NONE
            put(1, 3, 30) = NONE
            put(1, 4, 40) = NONE
            row(1) = {4=40, 2=20, 3=30, 1=10}
            at(1, -1) ! IllegalArgumentException
            at(1, 0) = 4
            at(1, 1) = 2
            at(1, 2) = 3
            at(1, 3) = 1
            at(1, 4) = NONE
            place(1, 4) = 0
            place(1, 2) = 1
            place(1, 3) = 2
            place(1, 1) = 3
            """);
        EDGES.sentence("The FIRST PAIR is that at the PLACE 0, the LAST one that at the greatest PLACE.", """
            put(1, 3, 30) = NONE
            ofBook(1, 2) = 3
            ofBook(1, 4) = 3
            put(1, 2, 20) = NONE
            ofBook(1, 2) = 2
            ofBook(1, 4) = 3
            put(1, 1, 10) = NONE
            ofBook(1, 4) = 1
            place(1, 2) = 0
            place(1, 1) = 2
            at(1, 0) = 2
            at(1, 2) = 1
            """);
    }

    private static void namesOfKeys() {
        EDGES.sentence("The NAME of a KEY: its digits to the base 4, from the greatest one on, as letters", Runs.full(2) + """
            # a, b, ba, baa, baaa, baab: 0, 1, 4, 16, 64, 65
            at(2, 0) = 0
            at(2, 1) = 1
            at(2, 2) = 4
            at(2, 3) = 16
            at(2, 4) = 64
            at(2, 5) = 65
            # the last ones: ddb, ddc, ddd
            at(2, 97) = 61
            at(2, 98) = 62
            at(2, 99) = 63
            at(2, 100) = NONE
            isSound() = true
            """);
        EDGES.sentence("a for 0, b for 1, c for 2, d for 3, no a in front (a alone for 0)", """
            put(2, 4, 0) = NONE
            place(2, 0) = 0
            put(2, 0, 0) = NONE
            place(2, 4) = 1
            place(2, 1) = 1
            place(2, 2) = 2
            place(2, 3) = 2
            """);
        EDGES.sentence("So 0 to 5 are a, b, c, d, ba, bb, and 99 is bcad.", """
            put(2, 99, 0) = NONE
            put(2, 3, 0) = NONE
            put(2, 2, 0) = NONE
            put(2, 5, 0) = NONE
            put(2, 4, 0) = NONE
            put(2, 1, 0) = NONE
            put(2, 0, 0) = NONE
            row(2) = {0=0, 1=0, 4=0, 5=0, 99=0, 2=0, 3=0}
            # 98 is bcac, 24 is bca, 25 is bcb
            near(2, 98, 3) = 99
            near(2, 24, 3) = 99
            near(2, 25, 0) = 99
            near(2, 25, 3) = 2
            """);
        EDGES.sentence("Of two NAMES that one is ahead which has the smaller letter (a is the smallest one) at the first place at which they differ", """
            # bd is ahead of ca and of c, baad of bab
            put(2, 7, 0) = NONE
            place(2, 8) = 1
            place(2, 2) = 1
            put(2, 67, 0) = NONE
            place(2, 67) = 0
            place(2, 17) = 1
            place(2, 66) = 0
            """);
        EDGES.sentence("one that is the beginning of the other one is ahead of it (b, ba, baa, bab)", """
            put(2, 17, 0) = NONE
            put(2, 16, 0) = NONE
            put(2, 4, 0) = NONE
            put(2, 1, 0) = NONE
            row(2) = {1=0, 4=0, 16=0, 17=0}
            place(2, 64) = 3
            near(2, 64, 0) = 16
            near(2, 64, 3) = 17
            """);
    }

    private static void nextToAKey() {
        EDGES.sentence("LOWER is the KEY of the PAIR closest ahead of it, HIGHER of that closest behind it", """
            near(0, 50, 0) = NONE
            near(0, 50, 3) = NONE
            put(0, 50, 5) = NONE
            near(0, 50, 0) = NONE
            near(0, 50, 3) = NONE
            near(0, 51, 0) = 50
            near(0, 49, 3) = 50
            near(0, 49, 0) = NONE
            near(0, 51, 3) = NONE
            put(0, 0, 0) = NONE
            put(0, 99, 9) = NONE
            near(0, 50, 0) = 0
            near(0, 50, 3) = 99
            near(0, 0, 0) = NONE
            near(0, 99, 3) = NONE
            near(0, 1, 0) = 0
            near(0, 98, 3) = 99
            """);
        EDGES.sentence("FLOOR is the KEY itself, if the BOOK has it, otherwise LOWER; CEILING itself, if the BOOK has it, otherwise HIGHER.", """
            near(1, 98, 1) = NONE
            near(1, 1, 2) = NONE
            put(1, 98, 8) = NONE
            put(1, 1, 1) = NONE
            near(1, 98, 1) = 98
            near(1, 98, 2) = 98
            near(1, 1, 1) = 1
            near(1, 1, 2) = 1
            near(1, 96, 1) = 98
            near(1, 3, 2) = 1
            strike(1, 98) = 8
            near(1, 98, 1) = NONE
            near(1, 98, 2) = 1
            strike(1, 1) = 1
            near(1, 1, 2) = NONE
            """);
    }

    private static void writing() {
        EDGES.sentence("the PAIR is in the BOOK then, instead of one with that KEY, if there was one", """
            put(0, 99, 1) = NONE
            put(0, 99, 1) = 1
            put(0, 99, -9999) = 1
            row(0) = {99=-9999}
            """);
        EDGES.sentence("its PAIR is in the BOOK no more", Runs.full(0) + """
            strike(0, 99) = 99
            has(0, 99) = false
            strike(0, 0) = 0
            has(0, 0) = false
            at(0, 0) = 1
            at(0, 97) = 98
            at(0, 98) = NONE
            """);
        EDGES.sentence("without that KEY, the VALUE is written; otherwise the sum of both is written, but if that sum is 0, the KEY is struck.", """
            merge(0, 0, 0) = 0
            has(0, 0) = true
            merge(0, 0, 1) = 1
            merge(0, 0, -2) = -1
            merge(0, 0, 2) = 1
            merge(0, 0, -1) = NONE
            has(0, 0) = false
            put(0, 1, 9999) = NONE
            merge(0, 1, -9998) = 1
            put(0, 1, 9999) = 1
            merge(0, 1, -9999) = NONE
            row(0) = {}
            """);
        EDGES.sentence("if the BOOK has it, nothing; otherwise the VALUE 3 times KEY less 50 is written, but not if the KEY can be divided by 7.", """
            grow(0, 0) = NONE
            grow(0, 1) = -47
            grow(0, 6) = -32
            grow(0, 7) = NONE
            grow(0, 8) = -26
            grow(0, 97) = 241
            grow(0, 98) = NONE
            grow(0, 99) = 247
            put(0, 98, 0) = NONE
            grow(0, 98) = 0
            row(0) = {1=-47, 6=-32, 8=-26, 97=241, 98=0, 99=247}
            """);
        EDGES.sentence("if the BOOK has it, its VALUE becomes the half of it, divided towards 0; if that is 0, the KEY is struck. Without that KEY nothing.", """
            halve(0, 5) = NONE
            put(0, 1, 2) = NONE
            halve(0, 1) = 1
            halve(0, 1) = NONE
            put(0, 2, -2) = NONE
            halve(0, 2) = -1
            halve(0, 2) = NONE
            put(0, 3, 0) = NONE
            halve(0, 3) = NONE
            put(0, 4, -3) = NONE
            halve(0, 4) = -1
            row(0) = {4=-1}
            """);
    }

    private static void doublingAndBooks() {
        EDGES.sentence("without that KEY the KEY itself is written as its VALUE; with a VALUE above 500 or below -500 it is struck; otherwise twice its VALUE is written.", """
            twice(0, 0) = 0
            twice(0, 99) = 99
            twice(0, 99) = 198
            put(0, 1, 500) = NONE
            twice(0, 1) = 1000
            put(0, 1, 501) = 1000
            twice(0, 1) = NONE
            put(0, 1, -500) = NONE
            twice(0, 1) = -1000
            put(0, 1, -501) = -1000
            twice(0, 1) = NONE
            row(0) = {0=0, 99=198}
            """);
        EDGES.sentence("each PAIR of the first is written in the other one", """
            put(0, 0, 1) = NONE
            put(0, 99, 2) = NONE
            put(1, 99, 3) = NONE
            put(1, 98, 4) = NONE
            pour(0, 1) = 3
            row(1) = {98=4, 0=1, 99=2}
            row(0) = {0=1, 99=2}
            """);
        EDGES.sentence("that one has all of its PAIRS, no others, and its ORDER", """
            put(0, 2, 2) = NONE
            put(2, 1, 1) = NONE
            put(2, 64, 64) = NONE
            put(2, 17, 17) = NONE
            copy(2, 0) = 0
            row(0) = {1=1, 64=64, 17=17}
            ofBook(0, 1) = 2
            copy(1, 2) = 0
            row(2) = {}
            ofBook(2, 1) = 1
            """);
        EDGES.sentence("all VIEWS onto that one are shut, and a WALK in it, or through a VIEW onto it (also one that was shut), is over.", """
            head(1, 5, true) = 0
            part(0, 98, true, 6, true) = 1
            tail(2, 5, true) = 2
            viewWalk(1) = 0
            copy(0, 1) = 2
            ledger(1) = NONE
            step() ! IllegalStateException
            viewRow(0) ! IndexOutOfBoundsException
            viewRow(1) ! IndexOutOfBoundsException
            viewRow(2) = {}
            viewWalk(2) = 0
            shut(2) = 0
            copy(1, 0) = 0
            ledger(1) = 2
            copy(0, 2) = 0
            ledger(1) = NONE
            walk(2) = 0
            copy(0, 2) = 0
            step() ! IllegalStateException
            """);
    }

    private static void puts() {
        EDGES.promise(1, "Creates three BOOKS without PAIRS.", """
            ofBook(0, 0) = 0
            ofBook(1, 0) = 0
            ofBook(2, 0) = 0
            ledger(0) = 0
            ledger(1) = NONE
            ledger(4) = NONE
            ledger(6) = 0
            digest() = -3306767838265812558
            """);
        EDGES.promise(2, "Returns the VALUE that it had before; NONE, if it was not there.", Runs.full(2) + """
            put(2, 0, -9999) = 0
            put(2, 0, 9999) = -9999
            put(2, 0, 0) = 9999
            put(2, 63, 0) = 63
            strike(2, 63) = 0
            put(2, 63, 1) = NONE
            put(1, 63, 1) = NONE
            ofBook(2, 0) = 100
            """);
        EDGES.promise(3, "Returns the VALUE that it had before (and has still); NONE, if it was not there.", Runs.full(1) + """
            putAbsent(0, 0, -9999) = NONE
            putAbsent(0, 99, 9999) = NONE
            row(0) = {0=-9999, 99=9999}
            putAbsent(1, 98, 5) = 98
            putAbsent(1, 1, 5) = 1
            putAbsent(1, 0, 5) = 0
            get(1, 98) = 98
            get(1, 1) = 1
            get(1, 0) = 0
            """);
        EDGES.promise(4, "Returns the VALUE that it had before; NONE, if it is not there.", Runs.full(1) + """
            replace(0, 0, 5) = NONE
            row(0) = {}
            replace(1, 98, -9999) = 98
            replace(1, 1, 9999) = 1
            ofBook(1, 3) = -9999
            ofBook(1, 5) = 9999
            ofBook(1, 0) = 100
            """);
        EDGES.promise(5, "Returns whether it had that.", """
            swap(0, 0, -9999, 1) = false
            swap(0, 0, 0, 1) = false
            row(0) = {}
            put(0, 0, -9999) = NONE
            swap(0, 0, -9998, 9999) = false
            swap(0, 0, -9999, 9999) = true
            swap(0, 0, 9998, 0) = false
            swap(0, 0, 9999, 0) = true
            swap(0, 0, 0, 0) = true
            row(0) = {0=0}
            """);
    }

    private static void strikes() {
        EDGES.promise(6, "Returns the VALUE that it had; NONE, if it was not there.", Runs.full(0) + """
            strike(1, 0) = NONE
            strike(0, 0) = 0
            strike(0, 0) = NONE
            strike(0, 99) = 99
            strike(0, 99) = NONE
            ofBook(0, 0) = 98
            put(1, 0, -9999) = NONE
            strike(1, 0) = -9999
            row(1) = {}
            """);
        EDGES.promise(7, "Returns whether it had that.", """
            strikePair(0, 0, 0) = false
            put(0, 0, 9999) = NONE
            put(0, 99, -9999) = NONE
            strikePair(0, 0, 9998) = false
            strikePair(0, 0, -9999) = false
            strikePair(0, 99, -9998) = false
            row(0) = {0=9999, 99=-9999}
            strikePair(0, 0, 9999) = true
            strikePair(0, 0, 9999) = false
            strikePair(0, 99, -9999) = true
            row(0) = {}
            """);
    }

    private static void mergesAndGrows() {
        EDGES.promise(8, "Returns the VALUE that it has then; NONE, if it was struck.", Runs.full(0) + """
            merge(0, 0, 0) = NONE
            merge(0, 99, -99) = NONE
            ofBook(0, 0) = 98
            merge(0, 99, 9999) = 9999
            merge(0, 0, -9999) = -9999
            ofBook(0, 0) = 100
            """);
        EDGES.promise(9, "Returns the VALUE that it has then; NONE, if it is not there.", Runs.full(0) + """
            grow(1, 0) = NONE
            row(1) = {}
            grow(1, 99) = 247
            grow(0, 0) = 0
            grow(0, 7) = 7
            grow(0, 99) = 99
            ofBook(0, 6) = 4950
            """);
    }

    private static void halvesAndDoubles() {
        EDGES.promise(10, "Returns the VALUE that it has then; NONE, if it is not there.", Runs.full(0) + """
            halve(1, 0) = NONE
            row(1) = {}
            put(1, 99, 9999) = NONE
            halve(1, 99) = 4999
            put(1, 99, -9999) = 4999
            halve(1, 99) = -4999
            halve(0, 0) = NONE
            halve(0, 1) = NONE
            halve(0, 2) = 1
            halve(0, 99) = 49
            ofBook(0, 0) = 98
            """);
        EDGES.promise(11, "Returns the VALUE that it has then; NONE, if it is not there.", Runs.full(0) + """
            put(0, 99, 9999) = 99
            twice(0, 99) = NONE
            ofBook(0, 0) = 99
            twice(0, 99) = 99
            ofBook(0, 0) = 100
            put(0, 99, -9999) = 99
            twice(0, 99) = NONE
            twice(0, 0) = 0
            """);
    }

    private static void polls() {
        EDGES.promise(12, "Returns its KEY; NONE, if there is none.", Runs.full(2) + """
            poll(0, false) = NONE
            poll(0, true) = NONE
            put(1, 5, 0) = NONE
            poll(1, true) = 5
            poll(1, true) = NONE
            put(1, 6, 0) = NONE
            poll(1, false) = 6
            poll(1, false) = NONE
            poll(2, false) = 0
            poll(2, true) = 63
            poll(2, false) = 1
            poll(2, true) = 62
            ofBook(2, 0) = 96
            """);
    }

    private static void raises() {
        EDGES.promise(13, "Returns how many of them are other ones by that.", """
            raise(0, -1000) ! IllegalArgumentException
            raise(0, -999) = 0
            raise(0, 999) = 0
            raise(0, 1000) ! IllegalArgumentException
            put(0, 0, 9000) = NONE
            put(0, 1, 9001) = NONE
            put(0, 98, 9999) = NONE
            put(0, 99, -9999) = NONE
            raise(0, 0) = 0
            raise(0, 999) = 3
            row(0) = {0=9999, 1=9999, 98=9999, 99=-9000}
            raise(0, 1) = 1
            raise(0, -999) = 4
            row(0) = {0=9000, 1=9000, 98=9000, 99=-9998}
            raise(0, -1) = 4
            raise(0, -1) = 3
            row(0) = {0=8998, 1=8998, 98=8998, 99=-9999}
            """);
        EDGES.promise(13, "Each VALUE of a BOOK is more by some amount.", Runs.full(0) + """
            raise(0, 1) = 100
            ofBook(0, 6) = 5050
            ofBook(0, 3) = 1
            ofBook(0, 5) = 100
            raise(0, -999) = 100
            ofBook(0, 3) = -998
            ofBook(0, 5) = -899
            """);
    }

    private static void sifts() {
        EDGES.promise(14, "Returns how many are struck.", """
            sift(0, 1) ! IllegalArgumentException
            sift(0, 2) = 0
            sift(0, 99) = 0
            sift(0, 100) ! IllegalArgumentException
            put(0, 0, 9999) = NONE
            put(0, 1, 9998) = NONE
            put(0, 2, 0) = NONE
            put(0, 3, -99) = NONE
            put(0, 99, 99) = NONE
            sift(0, 99) = 4
            row(0) = {1=9998}
            sift(0, 98) = 0
            sift(0, 2) = 1
            row(0) = {}
            """);
        EDGES.promise(14, "STRIKES all KEYS with a VALUE that can be divided by a number, PAIR by PAIR.", Runs.full(0) + """
            sift(0, 99) = 2
            at(0, 0) = 1
            at(0, 97) = 98
            sift(0, 2) = 49
            ofBook(0, 0) = 49
            raise(0, 1) = 49
            sift(0, 2) = 49
            row(0) = {}
            """);
    }

    private static void strikesOfValues() {
        EDGES.promise(15, "Returns whether there was one.", """
            strikeValue(0, 0) = false
            strikeValue(0, -9999) = false
            put(0, 0, 9999) = NONE
            put(0, 99, -9999) = NONE
            strikeValue(0, 9998) = false
            strikeValue(0, 9999) = true
            row(0) = {99=-9999}
            strikeValue(0, -9999) = true
            row(0) = {}
            """);
        EDGES.promise(15, "Throws `IllegalStateException` if several KEYS have it", Runs.full(0) + """
            strikeValue(0, 0) = true
            strikeValue(0, 99) = true
            put(0, 99, 50) = NONE
            strikeValue(0, 50) ! IllegalStateException
            strike(0, 50) = 50
            strikeValue(0, 50) = true
            put(0, 0, 98) = NONE
            strikeValue(0, 98) ! IllegalStateException
            has(0, 0) = true
            has(0, 98) = true
            put(0, 0, 97) = 98
            strikeValue(0, 98) = true
            """);
    }

    private static void clears() {
        EDGES.promise(16, "Returns how many there were.", Runs.full(0) + """
            clear(1) = 0
            put(1, 5, 5) = NONE
            clear(1) = 1
            row(1) = {}
            clear(0) = 100
            row(0) = {}
            clear(0) = 0
            """);
    }

    private static void pours() {
        EDGES.promise(17, "Returns how many PAIRS the other one has then.", Runs.full(0) + """
            pour(1, 2) = 0
            pour(1, 0) = 100
            put(1, 5, 0) = NONE
            pour(1, 0) = 100
            get(0, 5) = 0
            pour(0, 2) = 100
            same(0, 2) = true
            ofBook(2, 1) = 2
            at(2, 99) = 63
            """);
        EDGES.promise(17, "Throws `IllegalArgumentException` if both are the same", """
            pour(0, 0) ! IllegalArgumentException
            pour(2, 2) ! IllegalArgumentException
            pour(0, 1) = 0
            pour(2, 1) = 0
            """);
    }

    private static void copies() {
        EDGES.promise(18, "Returns how many VIEWS are shut by that.", Runs.full(0) + """
            copy(0, 1) = 0
            ofBook(1, 0) = 100
            same(0, 1) = true
            ofBook(1, 1) = 0
            head(0, 50, true) = 0
            head(1, 50, true) = 1
            copy(0, 1) = 1
            tail(0, 50, true) = 1
            tail(0, 50, true) = 2
            tail(0, 50, true) = 3
            copy(2, 0) = 4
            ledger(0) = 0
            row(0) = {}
            ofBook(0, 1) = 2
            copy(2, 0) = 0
            head(0, 50, true) = 0
            """);
        EDGES.promise(18, "Throws `IllegalArgumentException` if both are the same", """
            head(1, 0, true) = 0
            walk(1) = 0
            copy(1, 1) ! IllegalArgumentException
            viewRow(0) = {}
            step() = NONE
            """);
    }

    private static void thins() {
        EDGES.promise(19, "Returns how many are struck.", Runs.full(0) + """
            thin(1, 2, true) = 0
            thin(1, 2, false) = 0
            thin(1, 0, true) = 0
            thin(0, 1, true) = 0
            put(1, 0, 5) = NONE
            put(1, 99, 5) = NONE
            thin(0, 1, true) = 2
            at(0, 0) = 1
            at(0, 97) = 98
            at(0, 98) = NONE
            pour(1, 0) = 100
            thin(0, 1, false) = 98
            row(0) = {0=5, 99=5}
            thin(1, 0, false) = 0
            thin(1, 0, true) = 2
            thin(0, 1, false) = 2
            row(0) = {}
            """);
        EDGES.promise(19, "Throws `IllegalArgumentException` if both are the same", """
            put(0, 1, 1) = NONE
            thin(0, 0, true) ! IllegalArgumentException
            thin(0, 0, false) ! IllegalArgumentException
            thin(3, 3, true) ! IndexOutOfBoundsException
            row(0) = {1=1}
            """);
    }
}
